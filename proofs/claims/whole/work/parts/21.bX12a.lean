set_option maxRecDepth 20000 in
theorem b_X12_status {x : jX} {d : Nat} {M : jM} {P : jM → Int32 → Prop}  
    (h : ∀ M1, M1 = jrI M 0 (upd (M.1 0) 1 (0 : Int32)) → P M1 (M1.1 0 0)) :
    JC x jtbM mX12_status d [.ref (x.2.2.2 0)] M (jI P) := by
  refine JC.of rfl (Nat.le_of_ble_eq_true rfl) ?_
  refine jw_ls (ls' := [(0, .ref (x.2.2.2 0))]) rfl ?_
  refine jw_aload_n (pc := 0) (j := 0) dX12_status_0 rfl rfl ?_
  refine jw_iconst (pc := 1) (v := 0) dX12_status_1 rfl ?_
  refine jw_putI (pc := 2) dX12_status_2 sM_0 fl_X12_81 fw_12_1 (by decide) rfl ?_
  replace h := h _ rfl
  generalize jrI M 0 (upd (M.1 0) 1 (0 : Int32)) = M1 at h ⊢
  refine jw_aload_n (pc := 5) (j := 0) dX12_status_5 rfl rfl ?_
  refine jw_getI (pc := 6) dX12_status_6 sM_0 fl_X12_84 (by decide) rfl ?_
  exact jw_iret (pc := 9) dX12_status_9 rfl ⟨_, rfl, h⟩
set_option maxRecDepth 20000 in
theorem b_X12_top {x : jX} {d : Nat} {M : jM} {P : jM → Int64 → Prop}  
    (h : ∀ M1, M1 = jrI M 0 (upd (M.1 0) 1 (0 : Int32)) → P M1 (M1.2 0 2)) :
    JC x jtbM mX12_top d [.ref (x.2.2.2 0)] M (jL P) := by
  refine JC.of rfl (Nat.le_of_ble_eq_true rfl) ?_
  refine jw_ls (ls' := [(0, .ref (x.2.2.2 0))]) rfl ?_
  refine jw_aload_n (pc := 0) (j := 0) dX12_top_0 rfl rfl ?_
  refine jw_iconst (pc := 1) (v := 0) dX12_top_1 rfl ?_
  refine jw_putI (pc := 2) dX12_top_2 sM_0 fl_X12_81 fw_12_1 (by decide) rfl ?_
  replace h := h _ rfl
  generalize jrI M 0 (upd (M.1 0) 1 (0 : Int32)) = M1 at h ⊢
  refine jw_aload_n (pc := 5) (j := 0) dX12_top_5 rfl rfl ?_
  refine jw_getL (pc := 6) dX12_top_6 sM_0 fl_X12_87 (by decide) rfl ?_
  exact jw_lret (pc := 9) dX12_top_9 rfl ⟨_, rfl, h⟩
set_option maxRecDepth 20000 in
theorem b_X12_bottom {x : jX} {d : Nat} {M : jM} {P : jM → Int64 → Prop}  
    (h : ∀ M1, M1 = jrI M 0 (upd (M.1 0) 1 (0 : Int32)) → P M1 (M1.2 0 3)) :
    JC x jtbM mX12_bottom d [.ref (x.2.2.2 0)] M (jL P) := by
  refine JC.of rfl (Nat.le_of_ble_eq_true rfl) ?_
  refine jw_ls (ls' := [(0, .ref (x.2.2.2 0))]) rfl ?_
  refine jw_aload_n (pc := 0) (j := 0) dX12_bottom_0 rfl rfl ?_
  refine jw_iconst (pc := 1) (v := 0) dX12_bottom_1 rfl ?_
  refine jw_putI (pc := 2) dX12_bottom_2 sM_0 fl_X12_81 fw_12_1 (by decide) rfl ?_
  replace h := h _ rfl
  generalize jrI M 0 (upd (M.1 0) 1 (0 : Int32)) = M1 at h ⊢
  refine jw_aload_n (pc := 5) (j := 0) dX12_bottom_5 rfl rfl ?_
  refine jw_getL (pc := 6) dX12_bottom_6 sM_0 fl_X12_7 (by decide) rfl ?_
  exact jw_lret (pc := 9) dX12_bottom_9 rfl ⟨_, rfl, h⟩
set_option maxRecDepth 20000 in
theorem b_X12_refuse {x : jX} {d : Nat} {M : jM} {P : jM → Int32 → Prop} {a1 : Int32} 
    (h : ∀ M1, M1 = jrI M 0 (upd (M.1 0) 0 a1) → P M1 (-1 : Int32)) :
    JC x jtbM mX12_refuse d [.ref (x.2.2.2 0), .int a1] M (jI P) := by
  refine JC.of rfl (Nat.le_of_ble_eq_true rfl) ?_
  refine jw_ls (ls' := [(0, .ref (x.2.2.2 0)), (1, .int a1)]) rfl ?_
  refine jw_aload_n (pc := 0) (j := 0) dX12_refuse_0 rfl rfl ?_
  refine jw_iload_n (pc := 1) (j := 1) dX12_refuse_1 rfl rfl ?_
  refine jw_putI (pc := 2) dX12_refuse_2 sM_0 fl_X12_84 fw_12_0 (by decide) rfl ?_
  replace h := h _ rfl
  generalize jrI M 0 (upd (M.1 0) 0 a1) = M1 at h ⊢
  refine jw_iconst (pc := 5) (v := (-1)) dX12_refuse_5 rfl ?_
  exact jw_iret (pc := 6) dX12_refuse_6 rfl ⟨_, rfl, h⟩
set_option maxRecDepth 20000 in
theorem b_X12_no {x : jX} {d : Nat} {M : jM} {P : jM → Bool → Prop} {a1 : Int32} 
    (h : ∀ M1, M1 = jrI M 0 (upd (M.1 0) 0 a1) → P M1 false) :
    JC x jtbM mX12_no d [.ref (x.2.2.2 0), .int a1] M (jZ P) := by
  refine JC.of rfl (Nat.le_of_ble_eq_true rfl) ?_
  refine jw_ls (ls' := [(0, .ref (x.2.2.2 0)), (1, .int a1)]) rfl ?_
  refine jw_aload_n (pc := 0) (j := 0) dX12_no_0 rfl rfl ?_
  refine jw_iload_n (pc := 1) (j := 1) dX12_no_1 rfl rfl ?_
  refine jw_putI (pc := 2) dX12_no_2 sM_0 fl_X12_84 fw_12_0 (by decide) rfl ?_
  replace h := h _ rfl
  generalize jrI M 0 (upd (M.1 0) 0 a1) = M1 at h ⊢
  refine jw_iconst (pc := 5) (v := 0) dX12_no_5 rfl ?_
  exact jw_zret (pc := 6) dX12_no_6 rfl (Or.inl rfl) ⟨false, rfl, h⟩
set_option maxRecDepth 20000 in
theorem b_X12_isIn {x : jX} {d : Nat} {M : jM} {P : jM → Bool → Prop} {a0 : Int64} {a2 : Int64} {a4 : Int64} 
    (h : (a0 < a2 → P M false) ∧ (¬ a0 < a2 → (a4 < a0 → P M false) ∧ (¬ a4 < a0 → P M true))) :
    JC x jtbM mX12_isIn d [.long a0, .long a2, .long a4] M (jZ P) := by
  refine JC.of rfl (Nat.le_of_ble_eq_true rfl) ?_
  refine jw_ls (ls' := [(0, .long a0), (2, .long a2), (4, .long a4)]) rfl ?_
  refine jw_lload_n (pc := 0) (j := 0) dX12_isIn_0 rfl rfl ?_
  refine jw_lload_n (pc := 1) (j := 1) dX12_isIn_1 rfl rfl ?_
  refine jw_lcmp (pc := 2) dX12_isIn_2 ?_
  refine jw_if_lt (pc := 3) (tgt := 17) dX12_isIn_3 (by decide) (fun c => ?_) (fun c => ?_)
  · replace h := h.1 ((jcmp_lt _ _).mp c)
    refine jw_iconst (pc := 17) (v := 0) dX12_isIn_17 rfl ?_
    exact jw_zret (pc := 18) dX12_isIn_18 rfl (Or.inl rfl) ⟨false, rfl, h⟩
  · replace h := h.2 (fun z => c ((jcmp_lt _ _).mpr z))
    refine jw_lload_n (pc := 6) (j := 0) dX12_isIn_6 rfl rfl ?_
    refine jw_lload (pc := 7) (j := 2) dX12_isIn_7 rfl ?_
    refine jw_lcmp (pc := 9) dX12_isIn_9 ?_
    refine jw_if_gt (pc := 10) (tgt := 17) dX12_isIn_10 (by decide) (fun c => ?_) (fun c => ?_)
    · replace h := h.1 ((jcmp_gt _ _).mp c)
      refine jw_iconst (pc := 17) (v := 0) dX12_isIn_17 rfl ?_
      exact jw_zret (pc := 18) dX12_isIn_18 rfl (Or.inl rfl) ⟨false, rfl, h⟩
    · replace h := h.2 (fun z => c ((jcmp_gt _ _).mpr z))
      refine jw_iconst (pc := 13) (v := 1) dX12_isIn_13 rfl ?_
      refine jw_goto (pc := 14) (tgt := 18) dX12_isIn_14 (by decide) ?_
      exact jw_zret (pc := 18) dX12_isIn_18 rfl (Or.inr rfl) ⟨true, rfl, h⟩
set_option maxRecDepth 20000 in
theorem b_X12_fraction {x : jX} {d : Nat} {M : jM} {P : jM → Bool → Prop} {a1 : Int64} {a3 : Int64} 
    (h : JC x jtbM mJ9_abs_067f4 d [.long a1] M (jL fun M1 r1 => JW x jtbM mX12_fraction (d + 1) (jZ P) 9 [(0, .ref (x.2.2.2 0)), (1, .long a1), (3, .long a3), (5, .long r1), (7, .long a3)] [] M1)) :
    JC x jtbM mX12_fraction (d + 1) [.ref (x.2.2.2 0), .long a1, .long a3] M (jZ P) := by
  refine JC.of rfl (Nat.le_of_ble_eq_true rfl) ?_
  refine jw_ls (ls' := [(0, .ref (x.2.2.2 0)), (1, .long a1), (3, .long a3)]) rfl ?_
  refine jw_lload_n (pc := 0) (j := 1) dX12_fraction_0 rfl rfl ?_
  refine jw_callS (pc := 1) (m2 := mJ9_abs_067f4) (As := [.long a1]) (st := []) dX12_fraction_1 gm_J9_abs_067f4 ml_X12_90 rfl (Nat.le_of_ble_eq_true rfl) (JC.mono h ?_)
  clear h
  rintro M1 _ ⟨r1, rfl, h⟩
  refine jw_st (st' := [.long r1]) rfl ?_
  refine jw_lstore (pc := 4) (ls' := [(5, .long r1), (0, .ref (x.2.2.2 0)), (1, .long a1), (3, .long a3)]) dX12_fraction_4 (by decide) rfl ?_
  refine jw_lload_n (pc := 6) (j := 3) dX12_fraction_6 rfl rfl ?_
  refine jw_lstore (pc := 7) (ls' := [(7, .long a3), (5, .long r1), (0, .ref (x.2.2.2 0)), (1, .long a1), (3, .long a3)]) dX12_fraction_7 (by decide) rfl ?_
  exact jw_sub [2, 3, 4, 1, 0] rfl h
set_option maxRecDepth 20000 in
theorem b_X12_fraction_9 {x : jX} {d : Nat} {M : jM} {P : jM → Bool → Prop} {l1 : Int64} {l3 : Int64} {l5 : Int64} {l7 : Int64} 
    (h : (l7 = (0 : Int64) → ¬ l5 = 0 ∧ (∀ M1, M1 = jrL M 0 (vp_updL (M.2 0) 2 (l1 / l5)) → ¬ l5 = 0 ∧ (∀ M2, M2 = jrL M1 0 (vp_updL (M1.2 0) 3 (l3 / l5)) → P M2 true))) ∧ (¬ l7 = (0 : Int64) → ¬ l7 = 0 ∧ (JW x jtbM mX12_fraction (d + 1) (jZ P) 9 [(0, .ref (x.2.2.2 0)), (1, .long l1), (3, .long l3), (5, .long l7), (7, .long (l5 - l5 / l7 * l7))] [] M))) :
    JW x jtbM mX12_fraction (d + 1) (jZ P) 9 [(0, .ref (x.2.2.2 0)), (1, .long l1), (3, .long l3), (5, .long l5), (7, .long l7)] [] M := by
  refine jw_lload (pc := 9) (j := 4) dX12_fraction_9 rfl ?_
  refine jw_lconst (pc := 11) (v := 0) dX12_fraction_11 rfl ?_
  refine jw_lcmp (pc := 12) dX12_fraction_12 ?_
  refine jw_if_eq (pc := 13) (tgt := 34) dX12_fraction_13 (by decide) (fun c => ?_) (fun c => ?_)
  · replace h := h.1 ((jcmp_eq _ _).mp c)
    refine jw_aload_n (pc := 34) (j := 0) dX12_fraction_34 rfl rfl ?_
    refine jw_lload_n (pc := 35) (j := 1) dX12_fraction_35 rfl rfl ?_
    refine jw_lload (pc := 36) (j := 3) dX12_fraction_36 rfl ?_
    obtain ⟨h0, h⟩ := h
    refine jw_ldiv (pc := 38) dX12_fraction_38 h0 ?_
    refine jw_putJ (pc := 39) dX12_fraction_39 sM_0 fl_X12_87 fw_12_2 (by decide) rfl ?_
    replace h := h _ rfl
    generalize jrL M 0 (vp_updL (M.2 0) 2 (l1 / l5)) = M1 at h ⊢
    refine jw_aload_n (pc := 42) (j := 0) dX12_fraction_42 rfl rfl ?_
    refine jw_lload_n (pc := 43) (j := 2) dX12_fraction_43 rfl rfl ?_
    refine jw_lload (pc := 44) (j := 3) dX12_fraction_44 rfl ?_
    obtain ⟨h0, h⟩ := h
    refine jw_ldiv (pc := 46) dX12_fraction_46 h0 ?_
    refine jw_putJ (pc := 47) dX12_fraction_47 sM_0 fl_X12_7 fw_12_3 (by decide) rfl ?_
    replace h := h _ rfl
    generalize jrL M1 0 (vp_updL (M1.2 0) 3 (l3 / l5)) = M2 at h ⊢
    refine jw_iconst (pc := 50) (v := 1) dX12_fraction_50 rfl ?_
    exact jw_zret (pc := 51) dX12_fraction_51 rfl (Or.inr rfl) ⟨true, rfl, h⟩
  · replace h := h.2 (fun z => c ((jcmp_eq _ _).mpr z))
    refine jw_lload (pc := 16) (j := 3) dX12_fraction_16 rfl ?_
    refine jw_lload (pc := 18) (j := 4) dX12_fraction_18 rfl ?_
    obtain ⟨h0, h⟩ := h
    refine jw_lrem (pc := 20) dX12_fraction_20 h0 ?_
    refine jw_lstore (pc := 21) (ls' := [(9, .long (l5 - l5 / l7 * l7)), (0, .ref (x.2.2.2 0)), (1, .long l1), (3, .long l3), (5, .long l5), (7, .long l7)]) dX12_fraction_21 (by decide) rfl ?_
    refine jw_lload (pc := 23) (j := 5) dX12_fraction_23 rfl ?_
    refine jw_lstore (pc := 25) (ls' := [(5, .long l7), (9, .long (l5 - l5 / l7 * l7)), (0, .ref (x.2.2.2 0)), (1, .long l1), (3, .long l3), (7, .long l7)]) dX12_fraction_25 (by decide) rfl ?_
    refine jw_lload (pc := 27) (j := 1) dX12_fraction_27 rfl ?_
    refine jw_lstore (pc := 29) (ls' := [(7, .long (l5 - l5 / l7 * l7)), (5, .long l7), (9, .long (l5 - l5 / l7 * l7)), (0, .ref (x.2.2.2 0)), (1, .long l1), (3, .long l3)]) dX12_fraction_29 (by decide) rfl ?_
    refine jw_goto (pc := 31) (tgt := 9) dX12_fraction_31 (by decide) ?_
    exact jw_sub [3, 4, 5, 1, 0] rfl h
set_option maxRecDepth 20000 in
theorem b_X12_cut {x : jX} {d : Nat} {M : jM} {P : jM → Int64 → Prop} {a0 : Int32} {a1 : Int64} 
    (h : (¬ a0 = 0 → (¬ a0 = (1 : Int32) → (¬ a0 = (2 : Int32) → P M a1) ∧ (a0 = (2 : Int32) → P M a1.toInt32.toInt64)) ∧ (a0 = (1 : Int32) → P M a1.toInt32.toInt16.toInt32.toInt64)) ∧ (a0 = 0 → P M a1.toInt32.toInt8.toInt32.toInt64)) :
    JC x jtbM mX12_cut d [.int a0, .long a1] M (jL P) := by
  refine JC.of rfl (Nat.le_of_ble_eq_true rfl) ?_
  refine jw_ls (ls' := [(0, .int a0), (1, .long a1)]) rfl ?_
  refine jw_iload_n (pc := 0) (j := 0) dX12_cut_0 rfl rfl ?_
  refine jw_if_ne (pc := 1) (tgt := 11) dX12_cut_1 (by decide) (fun c => ?_) (fun c => ?_)
  · replace h := h.1 c
    refine jw_iload_n (pc := 11) (j := 0) dX12_cut_11 rfl rfl ?_
    refine jw_iconst (pc := 12) (v := 1) dX12_cut_12 rfl ?_
    refine jw_icmp_ne (pc := 13) (tgt := 23) dX12_cut_13 (by decide) (fun c => ?_) (fun c => ?_)
    · replace h := h.1 c
      refine jw_iload_n (pc := 23) (j := 0) dX12_cut_23 rfl rfl ?_
      refine jw_iconst (pc := 24) (v := 2) dX12_cut_24 rfl ?_
      refine jw_icmp_ne (pc := 25) (tgt := 34) dX12_cut_25 (by decide) (fun c => ?_) (fun c => ?_)
      · replace h := h.1 c
        refine jw_lload_n (pc := 34) (j := 1) dX12_cut_34 rfl rfl ?_
        exact jw_lret (pc := 35) dX12_cut_35 rfl ⟨_, rfl, h⟩
      · replace h := h.2 c
        refine jw_lload_n (pc := 28) (j := 1) dX12_cut_28 rfl rfl ?_
        refine jw_l2i (pc := 29) dX12_cut_29 ?_
        refine jw_i2l (pc := 30) dX12_cut_30 ?_
        refine jw_goto (pc := 31) (tgt := 35) dX12_cut_31 (by decide) ?_
        exact jw_lret (pc := 35) dX12_cut_35 rfl ⟨_, rfl, h⟩
    · replace h := h.2 c
      refine jw_lload_n (pc := 16) (j := 1) dX12_cut_16 rfl rfl ?_
      refine jw_l2i (pc := 17) dX12_cut_17 ?_
      refine jw_i2s (pc := 18) dX12_cut_18 ?_
      refine jw_i2l (pc := 19) dX12_cut_19 ?_
      refine jw_goto (pc := 20) (tgt := 35) dX12_cut_20 (by decide) ?_
      exact jw_lret (pc := 35) dX12_cut_35 rfl ⟨_, rfl, h⟩
  · replace h := h.2 c
    refine jw_lload_n (pc := 4) (j := 1) dX12_cut_4 rfl rfl ?_
    refine jw_l2i (pc := 5) dX12_cut_5 ?_
    refine jw_i2b (pc := 6) dX12_cut_6 ?_
    refine jw_i2l (pc := 7) dX12_cut_7 ?_
    refine jw_goto (pc := 8) (tgt := 35) dX12_cut_8 (by decide) ?_
    exact jw_lret (pc := 35) dX12_cut_35 rfl ⟨_, rfl, h⟩
set_option maxRecDepth 20000 in
theorem b_X12_tray {x : jX} {d : Nat} {M : jM} {P : jM → Bool → Prop} {a1 : Int32} {a2 : Int32} {a3 : Int32} 
    (h : ∀ M1, M1 = jrI M 0 (upd (M.1 0) 1 (0 : Int32)) → ∀ M2, M2 = jrI M1 0 (upd (M1.1 0) 0 (0 : Int32)) → (a1 < 0 → JC x jtbM mX12_no d [.ref (x.2.2.2 0), .int (1 : Int32)] M2 (jZ fun M3 b1 => P M3 b1)) ∧ (¬ a1 < 0 → ((4 : Int32) ≤ a1 → JC x jtbM mX12_no d [.ref (x.2.2.2 0), .int (1 : Int32)] M2 (jZ fun M4 b2 => P M4 b2)) ∧ (¬ (4 : Int32) ≤ a1 → (a2 < 0 → JC x jtbM mX12_no d [.ref (x.2.2.2 0), .int (1 : Int32)] M2 (jZ fun M5 b3 => P M5 b3)) ∧ (¬ a2 < 0 → (a2 ≤ (3 : Int32) → (a3 ≤ (60 : Int32) → (0 ≤ a3 → ∃ j1, j1 < 4 ∧ a1 = nI j1 ∧ (∀ M6, M6 = jrI M2 1 (upd (M2.1 1) j1 a2) → ∀ M7, M7 = jrI M6 2 (upd (M6.1 2) j1 a3) → JW x jtbM mX12_tray (d + 1) (jZ P) 74 [(0, .ref (x.2.2.2 0)), (1, .int a1), (3, .int a3), (4, .int (0 : Int32))] [] M7)) ∧ (¬ 0 ≤ a3 → JC x jtbM mX12_no d [.ref (x.2.2.2 0), .int (6 : Int32)] M2 (jZ fun M8 b4 => P M8 b4))) ∧ (¬ a3 ≤ (60 : Int32) → JC x jtbM mX12_no d [.ref (x.2.2.2 0), .int (5 : Int32)] M2 (jZ fun M9 b5 => P M9 b5))) ∧ (¬ a2 ≤ (3 : Int32) → JC x jtbM mX12_no d [.ref (x.2.2.2 0), .int (1 : Int32)] M2 (jZ fun M10 b6 => P M10 b6)))))) :
    JC x jtbM mX12_tray (d + 1) [.ref (x.2.2.2 0), .int a1, .int a2, .int a3] M (jZ P) := by
  refine JC.of rfl (Nat.le_of_ble_eq_true rfl) ?_
  refine jw_ls (ls' := [(0, .ref (x.2.2.2 0)), (1, .int a1), (2, .int a2), (3, .int a3)]) rfl ?_
  refine jw_aload_n (pc := 0) (j := 0) dX12_tray_0 rfl rfl ?_
  refine jw_iconst (pc := 1) (v := 0) dX12_tray_1 rfl ?_
  refine jw_putI (pc := 2) dX12_tray_2 sM_0 fl_X12_81 fw_12_1 (by decide) rfl ?_
  replace h := h _ rfl
  generalize jrI M 0 (upd (M.1 0) 1 (0 : Int32)) = M1 at h ⊢
  refine jw_aload_n (pc := 5) (j := 0) dX12_tray_5 rfl rfl ?_
  refine jw_iconst (pc := 6) (v := 0) dX12_tray_6 rfl ?_
  refine jw_putI (pc := 7) dX12_tray_7 sM_0 fl_X12_84 fw_12_0 (by decide) rfl ?_
  replace h := h _ rfl
  generalize jrI M1 0 (upd (M1.1 0) 0 (0 : Int32)) = M2 at h ⊢
  refine jw_iload_n (pc := 10) (j := 1) dX12_tray_10 rfl rfl ?_
  refine jw_if_lt (pc := 11) (tgt := 28) dX12_tray_11 (by decide) (fun c => ?_) (fun c => ?_)
  · replace h := h.1 c
    refine jw_aload_n (pc := 28) (j := 0) dX12_tray_28 rfl rfl ?_
    refine jw_iconst (pc := 29) (v := 1) dX12_tray_29 rfl ?_
    refine jw_callV (pc := 30) (m2 := mX12_no) (As := [.int (1 : Int32)]) (st := []) dX12_tray_30 sM_0 (by decide) rfl rfl gm_X12_no ml_X12_96 rfl (Nat.le_of_ble_eq_true rfl) (JC.mono h ?_)
    clear h
    rintro M3 _ ⟨b1, rfl, h⟩
    refine jw_st (st' := [.int (jb b1)]) rfl ?_
    exact jw_zret (pc := 33) dX12_tray_33 rfl (jb_01 _) ⟨_, rfl, h⟩
  · replace h := h.2 c
    refine jw_iload_n (pc := 14) (j := 1) dX12_tray_14 rfl rfl ?_
    refine jw_iconst (pc := 15) (v := 4) dX12_tray_15 rfl ?_
    refine jw_icmp_ge (pc := 16) (tgt := 28) dX12_tray_16 (by decide) (fun c => ?_) (fun c => ?_)
    · replace h := h.1 c
      refine jw_aload_n (pc := 28) (j := 0) dX12_tray_28 rfl rfl ?_
      refine jw_iconst (pc := 29) (v := 1) dX12_tray_29 rfl ?_
      refine jw_callV (pc := 30) (m2 := mX12_no) (As := [.int (1 : Int32)]) (st := []) dX12_tray_30 sM_0 (by decide) rfl rfl gm_X12_no ml_X12_96 rfl (Nat.le_of_ble_eq_true rfl) (JC.mono h ?_)
      clear h
      rintro M4 _ ⟨b2, rfl, h⟩
      refine jw_st (st' := [.int (jb b2)]) rfl ?_
      exact jw_zret (pc := 33) dX12_tray_33 rfl (jb_01 _) ⟨_, rfl, h⟩
    · replace h := h.2 c
      refine jw_iload_n (pc := 19) (j := 2) dX12_tray_19 rfl rfl ?_
      refine jw_if_lt (pc := 20) (tgt := 28) dX12_tray_20 (by decide) (fun c => ?_) (fun c => ?_)
      · replace h := h.1 c
        refine jw_aload_n (pc := 28) (j := 0) dX12_tray_28 rfl rfl ?_
        refine jw_iconst (pc := 29) (v := 1) dX12_tray_29 rfl ?_
        refine jw_callV (pc := 30) (m2 := mX12_no) (As := [.int (1 : Int32)]) (st := []) dX12_tray_30 sM_0 (by decide) rfl rfl gm_X12_no ml_X12_96 rfl (Nat.le_of_ble_eq_true rfl) (JC.mono h ?_)
        clear h
        rintro M5 _ ⟨b3, rfl, h⟩
        refine jw_st (st' := [.int (jb b3)]) rfl ?_
        exact jw_zret (pc := 33) dX12_tray_33 rfl (jb_01 _) ⟨_, rfl, h⟩
      · replace h := h.2 c
        refine jw_iload_n (pc := 23) (j := 2) dX12_tray_23 rfl rfl ?_
        refine jw_iconst (pc := 24) (v := 3) dX12_tray_24 rfl ?_
        refine jw_icmp_le (pc := 25) (tgt := 34) dX12_tray_25 (by decide) (fun c => ?_) (fun c => ?_)
        · replace h := h.1 c
          refine jw_iload_n (pc := 34) (j := 3) dX12_tray_34 rfl rfl ?_
          refine jw_bipush (pc := 35) (v := 60) dX12_tray_35 rfl ?_
          refine jw_icmp_le (pc := 37) (tgt := 46) dX12_tray_37 (by decide) (fun c => ?_) (fun c => ?_)
          · replace h := h.1 c
            refine jw_iload_n (pc := 46) (j := 3) dX12_tray_46 rfl rfl ?_
            refine jw_if_ge (pc := 47) (tgt := 57) dX12_tray_47 (by decide) (fun c => ?_) (fun c => ?_)
            · replace h := h.1 c
              refine jw_aload_n (pc := 57) (j := 0) dX12_tray_57 rfl rfl ?_
              refine jw_getR (pc := 58) (r := 1) dX12_tray_58 sM_0 fl_X12_13 (by decide) rfl rfl ?_
              refine jw_iload_n (pc := 61) (j := 1) dX12_tray_61 rfl rfl ?_
              refine jw_iload_n (pc := 62) (j := 2) dX12_tray_62 rfl rfl ?_
              obtain ⟨j1, hj1, ej1, h⟩ := h
              refine jw_iast (pc := 63) (j := j1) dX12_tray_63 sM_1 hj1 ej1 (by decide) ?_
              replace h := h _ rfl
              generalize jrI M2 1 (upd (M2.1 1) j1 a2) = M6 at h ⊢
              refine jw_aload_n (pc := 64) (j := 0) dX12_tray_64 rfl rfl ?_
              refine jw_getR (pc := 65) (r := 2) dX12_tray_65 sM_0 fl_X12_17 (by decide) rfl rfl ?_
              refine jw_iload_n (pc := 68) (j := 1) dX12_tray_68 rfl rfl ?_
              refine jw_iload_n (pc := 69) (j := 3) dX12_tray_69 rfl rfl ?_
              refine jw_iast (pc := 70) (j := j1) dX12_tray_70 sM_2 hj1 ej1 (by decide) ?_
              replace h := h _ rfl
              generalize jrI M6 2 (upd (M6.1 2) j1 a3) = M7 at h ⊢
              refine jw_iconst (pc := 71) (v := 0) dX12_tray_71 rfl ?_
              refine jw_istore (pc := 72) (ls' := [(4, .int (0 : Int32)), (0, .ref (x.2.2.2 0)), (1, .int a1), (2, .int a2), (3, .int a3)]) dX12_tray_72 (by decide) rfl ?_
              exact jw_sub [1, 2, 4, 0] rfl h
            · replace h := h.2 c
              refine jw_aload_n (pc := 50) (j := 0) dX12_tray_50 rfl rfl ?_
              refine jw_bipush (pc := 51) (v := 6) dX12_tray_51 rfl ?_
              refine jw_callV (pc := 53) (m2 := mX12_no) (As := [.int (6 : Int32)]) (st := []) dX12_tray_53 sM_0 (by decide) rfl rfl gm_X12_no ml_X12_96 rfl (Nat.le_of_ble_eq_true rfl) (JC.mono h ?_)
              clear h
              rintro M8 _ ⟨b4, rfl, h⟩
              refine jw_st (st' := [.int (jb b4)]) rfl ?_
              exact jw_zret (pc := 56) dX12_tray_56 rfl (jb_01 _) ⟨_, rfl, h⟩
          · replace h := h.2 c
            refine jw_aload_n (pc := 40) (j := 0) dX12_tray_40 rfl rfl ?_
            refine jw_iconst (pc := 41) (v := 5) dX12_tray_41 rfl ?_
            refine jw_callV (pc := 42) (m2 := mX12_no) (As := [.int (5 : Int32)]) (st := []) dX12_tray_42 sM_0 (by decide) rfl rfl gm_X12_no ml_X12_96 rfl (Nat.le_of_ble_eq_true rfl) (JC.mono h ?_)
            clear h
            rintro M9 _ ⟨b5, rfl, h⟩
            refine jw_st (st' := [.int (jb b5)]) rfl ?_
            exact jw_zret (pc := 45) dX12_tray_45 rfl (jb_01 _) ⟨_, rfl, h⟩
        · replace h := h.2 c
          refine jw_aload_n (pc := 28) (j := 0) dX12_tray_28 rfl rfl ?_
          refine jw_iconst (pc := 29) (v := 1) dX12_tray_29 rfl ?_
          refine jw_callV (pc := 30) (m2 := mX12_no) (As := [.int (1 : Int32)]) (st := []) dX12_tray_30 sM_0 (by decide) rfl rfl gm_X12_no ml_X12_96 rfl (Nat.le_of_ble_eq_true rfl) (JC.mono h ?_)
          clear h
          rintro M10 _ ⟨b6, rfl, h⟩
          refine jw_st (st' := [.int (jb b6)]) rfl ?_
          exact jw_zret (pc := 33) dX12_tray_33 rfl (jb_01 _) ⟨_, rfl, h⟩
set_option maxRecDepth 20000 in
theorem b_X12_tray_74 {x : jX} {d : Nat} {M : jM} {P : jM → Bool → Prop} {l1 : Int32} {l3 : Int32} {l4 : Int32} 
    (h : (l3 ≤ l4 → P M true) ∧ (¬ l3 ≤ l4 → ∃ j1, j1 < 240 ∧ ((60 : Int32) * l1) + l4 = nI j1 ∧ (∀ M1, M1 = jrL M 3 (vp_updL (M.2 3) j1 (0 : Int64)) → JW x jtbM mX12_tray (d + 1) (jZ P) 74 [(0, .ref (x.2.2.2 0)), (1, .int l1), (3, .int l3), (4, .int (l4 + 1))] [] M1))) :
    JW x jtbM mX12_tray (d + 1) (jZ P) 74 [(0, .ref (x.2.2.2 0)), (1, .int l1), (3, .int l3), (4, .int l4)] [] M := by
  refine jw_iload (pc := 74) (j := 3) dX12_tray_74 rfl ?_
  refine jw_iload_n (pc := 76) (j := 2) dX12_tray_76 rfl rfl ?_
  refine jw_icmp_ge (pc := 77) (tgt := 99) dX12_tray_77 (by decide) (fun c => ?_) (fun c => ?_)
  · replace h := h.1 c
    refine jw_iconst (pc := 99) (v := 1) dX12_tray_99 rfl ?_
    exact jw_zret (pc := 100) dX12_tray_100 rfl (Or.inr rfl) ⟨true, rfl, h⟩
  · replace h := h.2 c
    refine jw_aload_n (pc := 80) (j := 0) dX12_tray_80 rfl rfl ?_
    refine jw_getR (pc := 81) (r := 3) dX12_tray_81 sM_0 fl_X12_20 (by decide) rfl rfl ?_
    refine jw_bipush (pc := 84) (v := 60) dX12_tray_84 rfl ?_
    refine jw_iload_n (pc := 86) (j := 1) dX12_tray_86 rfl rfl ?_
    refine jw_imul (pc := 87) dX12_tray_87 ?_
    refine jw_iload (pc := 88) (j := 3) dX12_tray_88 rfl ?_
    refine jw_iadd (pc := 90) dX12_tray_90 ?_
    refine jw_lconst (pc := 91) (v := 0) dX12_tray_91 rfl ?_
    obtain ⟨j1, hj1, ej1, h⟩ := h
    refine jw_last (pc := 92) (j := j1) dX12_tray_92 sM_3 hj1 ej1 (by decide) ?_
    replace h := h _ rfl
    generalize jrL M 3 (vp_updL (M.2 3) j1 (0 : Int64)) = M1 at h ⊢
    refine jw_iinc (pc := 93) (j := 3) (u := l4 + 1) (ls' := [(4, .int (l4 + 1)), (0, .ref (x.2.2.2 0)), (1, .int l1), (3, .int l3)]) dX12_tray_93 rfl rfl (by decide) rfl ?_
    refine jw_goto (pc := 96) (tgt := 74) dX12_tray_96 (by decide) ?_
    exact jw_sub [1, 2, 3, 0] rfl h
set_option maxRecDepth 20000 in
theorem b_X12_trayed {x : jX} {d : Nat} {M : jM} {P : jM → Int32 → Prop} {a1 : Int32} 
    (h : (a1 < 0 → P M (1 : Int32)) ∧ (¬ a1 < 0 → (a1 < (4 : Int32) → ∃ j1, j1 < 4 ∧ a1 = nI j1 ∧ ((0 ≤ (M.1 2 j1) → P M (0 : Int32)) ∧ (¬ 0 ≤ (M.1 2 j1) → P M (3 : Int32)))) ∧ (¬ a1 < (4 : Int32) → P M (1 : Int32)))) :
    JC x jtbM mX12_trayed d [.ref (x.2.2.2 0), .int a1] M (jI P) := by
  refine JC.of rfl (Nat.le_of_ble_eq_true rfl) ?_
  refine jw_ls (ls' := [(0, .ref (x.2.2.2 0)), (1, .int a1)]) rfl ?_
  refine jw_iload_n (pc := 0) (j := 1) dX12_trayed_0 rfl rfl ?_
  refine jw_if_lt (pc := 1) (tgt := 9) dX12_trayed_1 (by decide) (fun c => ?_) (fun c => ?_)
  · replace h := h.1 c
    refine jw_iconst (pc := 9) (v := 1) dX12_trayed_9 rfl ?_
    refine jw_goto (pc := 10) (tgt := 27) dX12_trayed_10 (by decide) ?_
    exact jw_iret (pc := 27) dX12_trayed_27 rfl ⟨_, rfl, h⟩
  · replace h := h.2 c
    refine jw_iload_n (pc := 4) (j := 1) dX12_trayed_4 rfl rfl ?_
    refine jw_iconst (pc := 5) (v := 4) dX12_trayed_5 rfl ?_
    refine jw_icmp_lt (pc := 6) (tgt := 13) dX12_trayed_6 (by decide) (fun c => ?_) (fun c => ?_)
    · replace h := h.1 c
      refine jw_aload_n (pc := 13) (j := 0) dX12_trayed_13 rfl rfl ?_
      refine jw_getR (pc := 14) (r := 2) dX12_trayed_14 sM_0 fl_X12_17 (by decide) rfl rfl ?_
      refine jw_iload_n (pc := 17) (j := 1) dX12_trayed_17 rfl rfl ?_
      obtain ⟨j1, hj1, ej1, h⟩ := h
      refine jw_iald (pc := 18) (j := j1) dX12_trayed_18 sM_2 hj1 ej1 (by decide) ?_
      refine jw_if_ge (pc := 19) (tgt := 26) dX12_trayed_19 (by decide) (fun c => ?_) (fun c => ?_)
      · replace h := h.1 c
        refine jw_iconst (pc := 26) (v := 0) dX12_trayed_26 rfl ?_
        exact jw_iret (pc := 27) dX12_trayed_27 rfl ⟨_, rfl, h⟩
      · replace h := h.2 c
        refine jw_iconst (pc := 22) (v := 3) dX12_trayed_22 rfl ?_
        refine jw_goto (pc := 23) (tgt := 27) dX12_trayed_23 (by decide) ?_
        exact jw_iret (pc := 27) dX12_trayed_27 rfl ⟨_, rfl, h⟩
    · replace h := h.2 c
      refine jw_iconst (pc := 9) (v := 1) dX12_trayed_9 rfl ?_
      refine jw_goto (pc := 10) (tgt := 27) dX12_trayed_10 (by decide) ?_
      exact jw_iret (pc := 27) dX12_trayed_27 rfl ⟨_, rfl, h⟩
set_option maxRecDepth 20000 in
theorem b_X12_placed {x : jX} {d : Nat} {M : jM} {P : jM → Int32 → Prop} {a1 : Int32} {a2 : Int32} 
    (h : JC x jtbM mX12_trayed d [.ref (x.2.2.2 0), .int a1] M (jI fun M1 r1 => (r1 ≤ 0 → (a2 < 0 → P M1 (4 : Int32)) ∧ (¬ a2 < 0 → ∃ j1, j1 < 4 ∧ a1 = nI j1 ∧ ((a2 < (M1.1 2 j1) → P M1 (0 : Int32)) ∧ (¬ a2 < (M1.1 2 j1) → P M1 (4 : Int32))))) ∧ (¬ r1 ≤ 0 → P M1 r1))) :
    JC x jtbM mX12_placed (d + 1) [.ref (x.2.2.2 0), .int a1, .int a2] M (jI P) := by
  refine JC.of rfl (Nat.le_of_ble_eq_true rfl) ?_
  refine jw_ls (ls' := [(0, .ref (x.2.2.2 0)), (1, .int a1), (2, .int a2)]) rfl ?_
  refine jw_aload_n (pc := 0) (j := 0) dX12_placed_0 rfl rfl ?_
  refine jw_iload_n (pc := 1) (j := 1) dX12_placed_1 rfl rfl ?_
  refine jw_callV (pc := 2) (m2 := mX12_trayed) (As := [.int a1]) (st := []) dX12_placed_2 sM_0 (by decide) rfl rfl gm_X12_trayed ml_X12_100 rfl (Nat.le_of_ble_eq_true rfl) (JC.mono h ?_)
  clear h
  rintro M1 _ ⟨r1, rfl, h⟩
  refine jw_st (st' := [.int r1]) rfl ?_
  refine jw_istore_n (pc := 5) (ls' := [(3, .int r1), (0, .ref (x.2.2.2 0)), (1, .int a1), (2, .int a2)]) dX12_placed_5 rfl (by decide) rfl ?_
  refine jw_iload_n (pc := 6) (j := 0) dX12_placed_6 rfl rfl ?_
  refine jw_if_le (pc := 7) (tgt := 14) dX12_placed_7 (by decide) (fun c => ?_) (fun c => ?_)
  · replace h := h.1 c
    refine jw_iload_n (pc := 14) (j := 3) dX12_placed_14 rfl rfl ?_
    refine jw_if_lt (pc := 15) (tgt := 28) dX12_placed_15 (by decide) (fun c => ?_) (fun c => ?_)
    · replace h := h.1 c
      refine jw_iconst (pc := 28) (v := 4) dX12_placed_28 rfl ?_
      refine jw_goto (pc := 29) (tgt := 33) dX12_placed_29 (by decide) ?_
      exact jw_iret (pc := 33) dX12_placed_33 rfl ⟨_, rfl, h⟩
    · replace h := h.2 c
      refine jw_iload_n (pc := 18) (j := 3) dX12_placed_18 rfl rfl ?_
      refine jw_aload_n (pc := 19) (j := 1) dX12_placed_19 rfl rfl ?_
      refine jw_getR (pc := 20) (r := 2) dX12_placed_20 sM_0 fl_X12_17 (by decide) rfl rfl ?_
      refine jw_iload_n (pc := 23) (j := 2) dX12_placed_23 rfl rfl ?_
      obtain ⟨j1, hj1, ej1, h⟩ := h
      refine jw_iald (pc := 24) (j := j1) dX12_placed_24 sM_2 hj1 ej1 (by decide) ?_
      refine jw_icmp_lt (pc := 25) (tgt := 32) dX12_placed_25 (by decide) (fun c => ?_) (fun c => ?_)
      · replace h := h.1 c
        refine jw_iconst (pc := 32) (v := 0) dX12_placed_32 rfl ?_
        exact jw_iret (pc := 33) dX12_placed_33 rfl ⟨_, rfl, h⟩
      · replace h := h.2 c
        refine jw_iconst (pc := 28) (v := 4) dX12_placed_28 rfl ?_
        refine jw_goto (pc := 29) (tgt := 33) dX12_placed_29 (by decide) ?_
        exact jw_iret (pc := 33) dX12_placed_33 rfl ⟨_, rfl, h⟩
  · replace h := h.2 c
    refine jw_iload_n (pc := 10) (j := 0) dX12_placed_10 rfl rfl ?_
    refine jw_goto (pc := 11) (tgt := 33) dX12_placed_11 (by decide) ?_
    exact jw_iret (pc := 33) dX12_placed_33 rfl ⟨_, rfl, h⟩
set_option maxRecDepth 20000 in
theorem b_X12_write {x : jX} {d : Nat} {M : jM} {P : jM → Bool → Prop} {a1 : Int32} {a2 : Int32} {a3 : Int64} 
    (h : ∀ M1, M1 = jrI M 0 (upd (M.1 0) 1 (0 : Int32)) → JC x jtbM mX12_placed d [.ref (x.2.2.2 0), .int a1, .int a2] M1 (jI fun M2 r1 => ∀ M3, M3 = jrI M2 0 (upd (M2.1 0) 0 r1) → ((M3.1 0 0) ≤ 0 → ∃ j1, j1 < 4 ∧ a1 = nI j1 ∧ (JC x jtbM mX12_cut d [.int (M3.1 1 j1), .long a3] M3 (jL fun M4 r2 => ∃ j2, j2 < 240 ∧ ((60 : Int32) * a1) + a2 = nI j2 ∧ (∀ M5, M5 = jrL M4 3 (vp_updL (M4.2 3) j2 r2) → P M5 true)))) ∧ (¬ (M3.1 0 0) ≤ 0 → P M3 false))) :
    JC x jtbM mX12_write (d + 1) [.ref (x.2.2.2 0), .int a1, .int a2, .long a3] M (jZ P) := by
  refine JC.of rfl (Nat.le_of_ble_eq_true rfl) ?_
  refine jw_ls (ls' := [(0, .ref (x.2.2.2 0)), (1, .int a1), (2, .int a2), (3, .long a3)]) rfl ?_
  refine jw_aload_n (pc := 0) (j := 0) dX12_write_0 rfl rfl ?_
  refine jw_iconst (pc := 1) (v := 0) dX12_write_1 rfl ?_
  refine jw_putI (pc := 2) dX12_write_2 sM_0 fl_X12_81 fw_12_1 (by decide) rfl ?_
  replace h := h _ rfl
  generalize jrI M 0 (upd (M.1 0) 1 (0 : Int32)) = M1 at h ⊢
  refine jw_aload_n (pc := 5) (j := 0) dX12_write_5 rfl rfl ?_
  refine jw_aload_n (pc := 6) (j := 0) dX12_write_6 rfl rfl ?_
  refine jw_iload_n (pc := 7) (j := 1) dX12_write_7 rfl rfl ?_
  refine jw_iload_n (pc := 8) (j := 2) dX12_write_8 rfl rfl ?_
  refine jw_callV (pc := 9) (m2 := mX12_placed) (As := [.int a1, .int a2]) (st := [.ref (x.2.2.2 0)]) dX12_write_9 sM_0 (by decide) rfl rfl gm_X12_placed ml_X12_104 rfl (Nat.le_of_ble_eq_true rfl) (JC.mono h ?_)
  clear h
  rintro M2 _ ⟨r1, rfl, h⟩
  refine jw_st (st' := [.int r1, .ref (x.2.2.2 0)]) rfl ?_
  refine jw_putI (pc := 12) dX12_write_12 sM_0 fl_X12_84 fw_12_0 (by decide) rfl ?_
  replace h := h _ rfl
  generalize jrI M2 0 (upd (M2.1 0) 0 r1) = M3 at h ⊢
  refine jw_aload_n (pc := 15) (j := 0) dX12_write_15 rfl rfl ?_
  refine jw_getI (pc := 16) dX12_write_16 sM_0 fl_X12_84 (by decide) rfl ?_
  refine jw_if_le (pc := 19) (tgt := 24) dX12_write_19 (by decide) (fun c => ?_) (fun c => ?_)
  · replace h := h.1 c
    refine jw_aload_n (pc := 24) (j := 0) dX12_write_24 rfl rfl ?_
    refine jw_getR (pc := 25) (r := 3) dX12_write_25 sM_0 fl_X12_20 (by decide) rfl rfl ?_
    refine jw_bipush (pc := 28) (v := 60) dX12_write_28 rfl ?_
    refine jw_iload_n (pc := 30) (j := 1) dX12_write_30 rfl rfl ?_
    refine jw_imul (pc := 31) dX12_write_31 ?_
    refine jw_iload_n (pc := 32) (j := 2) dX12_write_32 rfl rfl ?_
    refine jw_iadd (pc := 33) dX12_write_33 ?_
    refine jw_aload_n (pc := 34) (j := 0) dX12_write_34 rfl rfl ?_
    refine jw_getR (pc := 35) (r := 1) dX12_write_35 sM_0 fl_X12_13 (by decide) rfl rfl ?_
    refine jw_iload_n (pc := 38) (j := 1) dX12_write_38 rfl rfl ?_
    obtain ⟨j1, hj1, ej1, h⟩ := h
    refine jw_iald (pc := 39) (j := j1) dX12_write_39 sM_1 hj1 ej1 (by decide) ?_
    refine jw_lload_n (pc := 40) (j := 3) dX12_write_40 rfl rfl ?_
    refine jw_callS (pc := 41) (m2 := mX12_cut) (As := [.int (M3.1 1 j1), .long a3]) (st := [.int (((60 : Int32) * a1) + a2), .ref (x.2.2.2 3)]) dX12_write_41 gm_X12_cut ml_X12_108 rfl (Nat.le_of_ble_eq_true rfl) (JC.mono h ?_)
    clear h
    rintro M4 _ ⟨r2, rfl, h⟩
    refine jw_st (st' := [.long r2, .int (((60 : Int32) * a1) + a2), .ref (x.2.2.2 3)]) rfl ?_
    obtain ⟨j2, hj2, ej2, h⟩ := h
    refine jw_last (pc := 44) (j := j2) dX12_write_44 sM_3 hj2 ej2 (by decide) ?_
    replace h := h _ rfl
    generalize jrL M4 3 (vp_updL (M4.2 3) j2 r2) = M5 at h ⊢
    refine jw_iconst (pc := 45) (v := 1) dX12_write_45 rfl ?_
    exact jw_zret (pc := 46) dX12_write_46 rfl (Or.inr rfl) ⟨true, rfl, h⟩
  · replace h := h.2 c
    refine jw_iconst (pc := 22) (v := 0) dX12_write_22 rfl ?_
    exact jw_zret (pc := 23) dX12_write_23 rfl (Or.inl rfl) ⟨false, rfl, h⟩
set_option maxRecDepth 20000 in
theorem b_X12_read {x : jX} {d : Nat} {M : jM} {P : jM → Int64 → Prop} {a1 : Int32} {a2 : Int32} 
    (h : ∀ M1, M1 = jrI M 0 (upd (M.1 0) 1 (0 : Int32)) → JC x jtbM mX12_placed d [.ref (x.2.2.2 0), .int a1, .int a2] M1 (jI fun M2 r1 => ∀ M3, M3 = jrI M2 0 (upd (M2.1 0) 0 r1) → ((M3.1 0 0) ≤ 0 → ∃ j1, j1 < 240 ∧ ((60 : Int32) * a1) + a2 = nI j1 ∧ (P M3 (M3.2 3 j1))) ∧ (¬ (M3.1 0 0) ≤ 0 → P M3 (-1 : Int64)))) :
    JC x jtbM mX12_read (d + 1) [.ref (x.2.2.2 0), .int a1, .int a2] M (jL P) := by
  refine JC.of rfl (Nat.le_of_ble_eq_true rfl) ?_
  refine jw_ls (ls' := [(0, .ref (x.2.2.2 0)), (1, .int a1), (2, .int a2)]) rfl ?_
  refine jw_aload_n (pc := 0) (j := 0) dX12_read_0 rfl rfl ?_
  refine jw_iconst (pc := 1) (v := 0) dX12_read_1 rfl ?_
  refine jw_putI (pc := 2) dX12_read_2 sM_0 fl_X12_81 fw_12_1 (by decide) rfl ?_
  replace h := h _ rfl
  generalize jrI M 0 (upd (M.1 0) 1 (0 : Int32)) = M1 at h ⊢
  refine jw_aload_n (pc := 5) (j := 0) dX12_read_5 rfl rfl ?_
  refine jw_aload_n (pc := 6) (j := 0) dX12_read_6 rfl rfl ?_
  refine jw_iload_n (pc := 7) (j := 1) dX12_read_7 rfl rfl ?_
  refine jw_iload_n (pc := 8) (j := 2) dX12_read_8 rfl rfl ?_
  refine jw_callV (pc := 9) (m2 := mX12_placed) (As := [.int a1, .int a2]) (st := [.ref (x.2.2.2 0)]) dX12_read_9 sM_0 (by decide) rfl rfl gm_X12_placed ml_X12_104 rfl (Nat.le_of_ble_eq_true rfl) (JC.mono h ?_)
  clear h
  rintro M2 _ ⟨r1, rfl, h⟩
  refine jw_st (st' := [.int r1, .ref (x.2.2.2 0)]) rfl ?_
  refine jw_putI (pc := 12) dX12_read_12 sM_0 fl_X12_84 fw_12_0 (by decide) rfl ?_
  replace h := h _ rfl
  generalize jrI M2 0 (upd (M2.1 0) 0 r1) = M3 at h ⊢
  refine jw_aload_n (pc := 15) (j := 0) dX12_read_15 rfl rfl ?_
  refine jw_getI (pc := 16) dX12_read_16 sM_0 fl_X12_84 (by decide) rfl ?_
  refine jw_if_le (pc := 19) (tgt := 28) dX12_read_19 (by decide) (fun c => ?_) (fun c => ?_)
  · replace h := h.1 c
    refine jw_aload_n (pc := 28) (j := 0) dX12_read_28 rfl rfl ?_
    refine jw_getR (pc := 29) (r := 3) dX12_read_29 sM_0 fl_X12_20 (by decide) rfl rfl ?_
    refine jw_bipush (pc := 32) (v := 60) dX12_read_32 rfl ?_
    refine jw_iload_n (pc := 34) (j := 1) dX12_read_34 rfl rfl ?_
    refine jw_imul (pc := 35) dX12_read_35 ?_
    refine jw_iload_n (pc := 36) (j := 2) dX12_read_36 rfl rfl ?_
    refine jw_iadd (pc := 37) dX12_read_37 ?_
    obtain ⟨j1, hj1, ej1, h⟩ := h
    refine jw_lald (pc := 38) (j := j1) dX12_read_38 sM_3 hj1 ej1 (by decide) ?_
    exact jw_lret (pc := 39) dX12_read_39 rfl ⟨_, rfl, h⟩
  · replace h := h.2 c
    refine jw_ldc2 (pc := 22) (v := -1) dX12_read_22 kl_X12_112 ?_
    refine jw_goto (pc := 25) (tgt := 39) dX12_read_25 (by decide) ?_
    exact jw_lret (pc := 39) dX12_read_39 rfl ⟨_, rfl, h⟩
set_option maxRecDepth 20000 in
theorem b_X12_pour {x : jX} {d : Nat} {M : jM} {P : jM → Bool → Prop} {a1 : Int32} {a2 : Int32} {a3 : Int32} {a4 : Int32} {a5 : Int32} 
    (h : ∀ M1, M1 = jrI M 0 (upd (M.1 0) 1 (0 : Int32)) → ∀ M2, M2 = jrI M1 0 (upd (M1.1 0) 0 (0 : Int32)) → (a1 < 0 → JC x jtbM mX12_no d [.ref (x.2.2.2 0), .int (1 : Int32)] M2 (jZ fun M3 b1 => P M3 b1)) ∧ (¬ a1 < 0 → ((4 : Int32) ≤ a1 → JC x jtbM mX12_no d [.ref (x.2.2.2 0), .int (1 : Int32)] M2 (jZ fun M4 b2 => P M4 b2)) ∧ (¬ (4 : Int32) ≤ a1 → (a3 < 0 → JC x jtbM mX12_no d [.ref (x.2.2.2 0), .int (1 : Int32)] M2 (jZ fun M5 b3 => P M5 b3)) ∧ (¬ a3 < 0 → (a3 < (4 : Int32) → ∃ j1, j1 < 4 ∧ a1 = nI j1 ∧ (((M2.1 2 j1) < 0 → JC x jtbM mX12_no d [.ref (x.2.2.2 0), .int (3 : Int32)] M2 (jZ fun M6 b4 => P M6 b4)) ∧ (¬ (M2.1 2 j1) < 0 → ∃ j2, j2 < 4 ∧ a3 = nI j2 ∧ ((0 ≤ (M2.1 2 j2) → ((M2.1 1 j1) = (M2.1 1 j2) → (0 ≤ a5 → (a2 < 0 → JC x jtbM mX12_no d [.ref (x.2.2.2 0), .int (4 : Int32)] M2 (jZ fun M7 b5 => P M7 b5)) ∧ (¬ a2 < 0 → (a4 < 0 → JC x jtbM mX12_no d [.ref (x.2.2.2 0), .int (4 : Int32)] M2 (jZ fun M8 b6 => P M8 b6)) ∧ (¬ a4 < 0 → (((M2.1 2 j1).toInt64) < (a2.toInt64 + a5.toInt64) → JC x jtbM mX12_no d [.ref (x.2.2.2 0), .int (4 : Int32)] M2 (jZ fun M9 b7 => P M9 b7)) ∧ (¬ ((M2.1 2 j1).toInt64) < (a2.toInt64 + a5.toInt64) → ((a4.toInt64 + a5.toInt64) ≤ ((M2.1 2 j2).toInt64) → (a4 ≤ a2 → JW x jtbM mX12_pour (d + 1) (jZ P) 158 [(0, .ref (x.2.2.2 0)), (1, .int a1), (2, .int a2), (3, .int a3), (4, .int a4), (5, .int a5), (6, .int (0 : Int32)), (7, .int (0 : Int32))] [] M2) ∧ (¬ a4 ≤ a2 → JW x jtbM mX12_pour (d + 1) (jZ P) 158 [(0, .ref (x.2.2.2 0)), (1, .int a1), (2, .int a2), (3, .int a3), (4, .int a4), (5, .int a5), (6, .int (1 : Int32)), (7, .int (0 : Int32))] [] M2)) ∧ (¬ (a4.toInt64 + a5.toInt64) ≤ ((M2.1 2 j2).toInt64) → JC x jtbM mX12_no d [.ref (x.2.2.2 0), .int (4 : Int32)] M2 (jZ fun M10 b8 => P M10 b8)))))) ∧ (¬ 0 ≤ a5 → JC x jtbM mX12_no d [.ref (x.2.2.2 0), .int (6 : Int32)] M2 (jZ fun M11 b9 => P M11 b9))) ∧ (¬ (M2.1 1 j1) = (M2.1 1 j2) → JC x jtbM mX12_no d [.ref (x.2.2.2 0), .int (11 : Int32)] M2 (jZ fun M12 b10 => P M12 b10))) ∧ (¬ 0 ≤ (M2.1 2 j2) → JC x jtbM mX12_no d [.ref (x.2.2.2 0), .int (3 : Int32)] M2 (jZ fun M13 b11 => P M13 b11)))))) ∧ (¬ a3 < (4 : Int32) → JC x jtbM mX12_no d [.ref (x.2.2.2 0), .int (1 : Int32)] M2 (jZ fun M14 b12 => P M14 b12)))))) :
    JC x jtbM mX12_pour (d + 1) [.ref (x.2.2.2 0), .int a1, .int a2, .int a3, .int a4, .int a5] M (jZ P) := by
  refine JC.of rfl (Nat.le_of_ble_eq_true rfl) ?_
  refine jw_ls (ls' := [(0, .ref (x.2.2.2 0)), (1, .int a1), (2, .int a2), (3, .int a3), (4, .int a4), (5, .int a5)]) rfl ?_
  refine jw_aload_n (pc := 0) (j := 0) dX12_pour_0 rfl rfl ?_
  refine jw_iconst (pc := 1) (v := 0) dX12_pour_1 rfl ?_
  refine jw_putI (pc := 2) dX12_pour_2 sM_0 fl_X12_81 fw_12_1 (by decide) rfl ?_
  replace h := h _ rfl
  generalize jrI M 0 (upd (M.1 0) 1 (0 : Int32)) = M1 at h ⊢
  refine jw_aload_n (pc := 5) (j := 0) dX12_pour_5 rfl rfl ?_
  refine jw_iconst (pc := 6) (v := 0) dX12_pour_6 rfl ?_
  refine jw_putI (pc := 7) dX12_pour_7 sM_0 fl_X12_84 fw_12_0 (by decide) rfl ?_
  replace h := h _ rfl
  generalize jrI M1 0 (upd (M1.1 0) 0 (0 : Int32)) = M2 at h ⊢
  refine jw_iload_n (pc := 10) (j := 1) dX12_pour_10 rfl rfl ?_
  refine jw_if_lt (pc := 11) (tgt := 28) dX12_pour_11 (by decide) (fun c => ?_) (fun c => ?_)
  · replace h := h.1 c
    refine jw_aload_n (pc := 28) (j := 0) dX12_pour_28 rfl rfl ?_
    refine jw_iconst (pc := 29) (v := 1) dX12_pour_29 rfl ?_
    refine jw_callV (pc := 30) (m2 := mX12_no) (As := [.int (1 : Int32)]) (st := []) dX12_pour_30 sM_0 (by decide) rfl rfl gm_X12_no ml_X12_96 rfl (Nat.le_of_ble_eq_true rfl) (JC.mono h ?_)
    clear h
    rintro M3 _ ⟨b1, rfl, h⟩
    refine jw_st (st' := [.int (jb b1)]) rfl ?_
    exact jw_zret (pc := 33) dX12_pour_33 rfl (jb_01 _) ⟨_, rfl, h⟩
  · replace h := h.2 c
    refine jw_iload_n (pc := 14) (j := 1) dX12_pour_14 rfl rfl ?_
    refine jw_iconst (pc := 15) (v := 4) dX12_pour_15 rfl ?_
    refine jw_icmp_ge (pc := 16) (tgt := 28) dX12_pour_16 (by decide) (fun c => ?_) (fun c => ?_)
    · replace h := h.1 c
      refine jw_aload_n (pc := 28) (j := 0) dX12_pour_28 rfl rfl ?_
      refine jw_iconst (pc := 29) (v := 1) dX12_pour_29 rfl ?_
      refine jw_callV (pc := 30) (m2 := mX12_no) (As := [.int (1 : Int32)]) (st := []) dX12_pour_30 sM_0 (by decide) rfl rfl gm_X12_no ml_X12_96 rfl (Nat.le_of_ble_eq_true rfl) (JC.mono h ?_)
      clear h
      rintro M4 _ ⟨b2, rfl, h⟩
      refine jw_st (st' := [.int (jb b2)]) rfl ?_
      exact jw_zret (pc := 33) dX12_pour_33 rfl (jb_01 _) ⟨_, rfl, h⟩
    · replace h := h.2 c
      refine jw_iload_n (pc := 19) (j := 3) dX12_pour_19 rfl rfl ?_
      refine jw_if_lt (pc := 20) (tgt := 28) dX12_pour_20 (by decide) (fun c => ?_) (fun c => ?_)
      · replace h := h.1 c
        refine jw_aload_n (pc := 28) (j := 0) dX12_pour_28 rfl rfl ?_
        refine jw_iconst (pc := 29) (v := 1) dX12_pour_29 rfl ?_
        refine jw_callV (pc := 30) (m2 := mX12_no) (As := [.int (1 : Int32)]) (st := []) dX12_pour_30 sM_0 (by decide) rfl rfl gm_X12_no ml_X12_96 rfl (Nat.le_of_ble_eq_true rfl) (JC.mono h ?_)
        clear h
        rintro M5 _ ⟨b3, rfl, h⟩
        refine jw_st (st' := [.int (jb b3)]) rfl ?_
        exact jw_zret (pc := 33) dX12_pour_33 rfl (jb_01 _) ⟨_, rfl, h⟩
      · replace h := h.2 c
        refine jw_iload_n (pc := 23) (j := 3) dX12_pour_23 rfl rfl ?_
        refine jw_iconst (pc := 24) (v := 4) dX12_pour_24 rfl ?_
        refine jw_icmp_lt (pc := 25) (tgt := 34) dX12_pour_25 (by decide) (fun c => ?_) (fun c => ?_)
        · replace h := h.1 c
          refine jw_aload_n (pc := 34) (j := 0) dX12_pour_34 rfl rfl ?_
          refine jw_getR (pc := 35) (r := 2) dX12_pour_35 sM_0 fl_X12_17 (by decide) rfl rfl ?_
          refine jw_iload_n (pc := 38) (j := 1) dX12_pour_38 rfl rfl ?_
          obtain ⟨j1, hj1, ej1, h⟩ := h
          refine jw_iald (pc := 39) (j := j1) dX12_pour_39 sM_2 hj1 ej1 (by decide) ?_
          refine jw_if_lt (pc := 40) (tgt := 52) dX12_pour_40 (by decide) (fun c => ?_) (fun c => ?_)
          · replace h := h.1 c
            refine jw_aload_n (pc := 52) (j := 0) dX12_pour_52 rfl rfl ?_
            refine jw_iconst (pc := 53) (v := 3) dX12_pour_53 rfl ?_
            refine jw_callV (pc := 54) (m2 := mX12_no) (As := [.int (3 : Int32)]) (st := []) dX12_pour_54 sM_0 (by decide) rfl rfl gm_X12_no ml_X12_96 rfl (Nat.le_of_ble_eq_true rfl) (JC.mono h ?_)
            clear h
            rintro M6 _ ⟨b4, rfl, h⟩
            refine jw_st (st' := [.int (jb b4)]) rfl ?_
            exact jw_zret (pc := 57) dX12_pour_57 rfl (jb_01 _) ⟨_, rfl, h⟩
          · replace h := h.2 c
            refine jw_aload_n (pc := 43) (j := 0) dX12_pour_43 rfl rfl ?_
            refine jw_getR (pc := 44) (r := 2) dX12_pour_44 sM_0 fl_X12_17 (by decide) rfl rfl ?_
            refine jw_iload_n (pc := 47) (j := 3) dX12_pour_47 rfl rfl ?_
            obtain ⟨j2, hj2, ej2, h⟩ := h
            refine jw_iald (pc := 48) (j := j2) dX12_pour_48 sM_2 hj2 ej2 (by decide) ?_
            refine jw_if_ge (pc := 49) (tgt := 58) dX12_pour_49 (by decide) (fun c => ?_) (fun c => ?_)
            · replace h := h.1 c
              refine jw_aload_n (pc := 58) (j := 0) dX12_pour_58 rfl rfl ?_
              refine jw_getR (pc := 59) (r := 1) dX12_pour_59 sM_0 fl_X12_13 (by decide) rfl rfl ?_
              refine jw_iload_n (pc := 62) (j := 1) dX12_pour_62 rfl rfl ?_
              refine jw_iald (pc := 63) (j := j1) dX12_pour_63 sM_1 hj1 ej1 (by decide) ?_
              refine jw_aload_n (pc := 64) (j := 0) dX12_pour_64 rfl rfl ?_
              refine jw_getR (pc := 65) (r := 1) dX12_pour_65 sM_0 fl_X12_13 (by decide) rfl rfl ?_
              refine jw_iload_n (pc := 68) (j := 3) dX12_pour_68 rfl rfl ?_
              refine jw_iald (pc := 69) (j := j2) dX12_pour_69 sM_1 hj2 ej2 (by decide) ?_
              refine jw_icmp_eq (pc := 70) (tgt := 80) dX12_pour_70 (by decide) (fun c => ?_) (fun c => ?_)
              · replace h := h.1 c
                refine jw_iload (pc := 80) (j := 5) dX12_pour_80 rfl ?_
                refine jw_if_ge (pc := 82) (tgt := 92) dX12_pour_82 (by decide) (fun c => ?_) (fun c => ?_)
                · replace h := h.1 c
                  refine jw_iload_n (pc := 92) (j := 2) dX12_pour_92 rfl rfl ?_
                  refine jw_if_lt (pc := 93) (tgt := 136) dX12_pour_93 (by decide) (fun c => ?_) (fun c => ?_)
                  · replace h := h.1 c
                    refine jw_aload_n (pc := 136) (j := 0) dX12_pour_136 rfl rfl ?_
                    refine jw_iconst (pc := 137) (v := 4) dX12_pour_137 rfl ?_
                    refine jw_callV (pc := 138) (m2 := mX12_no) (As := [.int (4 : Int32)]) (st := []) dX12_pour_138 sM_0 (by decide) rfl rfl gm_X12_no ml_X12_96 rfl (Nat.le_of_ble_eq_true rfl) (JC.mono h ?_)
                    clear h
                    rintro M7 _ ⟨b5, rfl, h⟩
                    refine jw_st (st' := [.int (jb b5)]) rfl ?_
                    exact jw_zret (pc := 141) dX12_pour_141 rfl (jb_01 _) ⟨_, rfl, h⟩
                  · replace h := h.2 c
                    refine jw_iload (pc := 96) (j := 4) dX12_pour_96 rfl ?_
                    refine jw_if_lt (pc := 98) (tgt := 136) dX12_pour_98 (by decide) (fun c => ?_) (fun c => ?_)
                    · replace h := h.1 c
                      refine jw_aload_n (pc := 136) (j := 0) dX12_pour_136 rfl rfl ?_
                      refine jw_iconst (pc := 137) (v := 4) dX12_pour_137 rfl ?_
                      refine jw_callV (pc := 138) (m2 := mX12_no) (As := [.int (4 : Int32)]) (st := []) dX12_pour_138 sM_0 (by decide) rfl rfl gm_X12_no ml_X12_96 rfl (Nat.le_of_ble_eq_true rfl) (JC.mono h ?_)
                      clear h
                      rintro M8 _ ⟨b6, rfl, h⟩
                      refine jw_st (st' := [.int (jb b6)]) rfl ?_
                      exact jw_zret (pc := 141) dX12_pour_141 rfl (jb_01 _) ⟨_, rfl, h⟩
                    · replace h := h.2 c
                      refine jw_iload_n (pc := 101) (j := 2) dX12_pour_101 rfl rfl ?_
                      refine jw_i2l (pc := 102) dX12_pour_102 ?_
                      refine jw_iload (pc := 103) (j := 5) dX12_pour_103 rfl ?_
                      refine jw_i2l (pc := 105) dX12_pour_105 ?_
                      refine jw_ladd (pc := 106) dX12_pour_106 ?_
                      refine jw_aload_n (pc := 107) (j := 0) dX12_pour_107 rfl rfl ?_
                      refine jw_getR (pc := 108) (r := 2) dX12_pour_108 sM_0 fl_X12_17 (by decide) rfl rfl ?_
                      refine jw_iload_n (pc := 111) (j := 1) dX12_pour_111 rfl rfl ?_
                      refine jw_iald (pc := 112) (j := j1) dX12_pour_112 sM_2 hj1 ej1 (by decide) ?_
                      refine jw_i2l (pc := 113) dX12_pour_113 ?_
                      refine jw_lcmp (pc := 114) dX12_pour_114 ?_
                      refine jw_if_gt (pc := 115) (tgt := 136) dX12_pour_115 (by decide) (fun c => ?_) (fun c => ?_)
                      · replace h := h.1 ((jcmp_gt _ _).mp c)
                        refine jw_aload_n (pc := 136) (j := 0) dX12_pour_136 rfl rfl ?_
                        refine jw_iconst (pc := 137) (v := 4) dX12_pour_137 rfl ?_
                        refine jw_callV (pc := 138) (m2 := mX12_no) (As := [.int (4 : Int32)]) (st := []) dX12_pour_138 sM_0 (by decide) rfl rfl gm_X12_no ml_X12_96 rfl (Nat.le_of_ble_eq_true rfl) (JC.mono h ?_)
                        clear h
                        rintro M9 _ ⟨b7, rfl, h⟩
                        refine jw_st (st' := [.int (jb b7)]) rfl ?_
                        exact jw_zret (pc := 141) dX12_pour_141 rfl (jb_01 _) ⟨_, rfl, h⟩
                      · replace h := h.2 (fun z => c ((jcmp_gt _ _).mpr z))
                        refine jw_iload (pc := 118) (j := 4) dX12_pour_118 rfl ?_
                        refine jw_i2l (pc := 120) dX12_pour_120 ?_
                        refine jw_iload (pc := 121) (j := 5) dX12_pour_121 rfl ?_
                        refine jw_i2l (pc := 123) dX12_pour_123 ?_
                        refine jw_ladd (pc := 124) dX12_pour_124 ?_
                        refine jw_aload_n (pc := 125) (j := 0) dX12_pour_125 rfl rfl ?_
                        refine jw_getR (pc := 126) (r := 2) dX12_pour_126 sM_0 fl_X12_17 (by decide) rfl rfl ?_
                        refine jw_iload_n (pc := 129) (j := 3) dX12_pour_129 rfl rfl ?_
                        refine jw_iald (pc := 130) (j := j2) dX12_pour_130 sM_2 hj2 ej2 (by decide) ?_
                        refine jw_i2l (pc := 131) dX12_pour_131 ?_
                        refine jw_lcmp (pc := 132) dX12_pour_132 ?_
                        refine jw_if_le (pc := 133) (tgt := 142) dX12_pour_133 (by decide) (fun c => ?_) (fun c => ?_)
                        · replace h := h.1 ((jcmp_le _ _).mp c)
                          refine jw_iload_n (pc := 142) (j := 2) dX12_pour_142 rfl rfl ?_
                          refine jw_iload (pc := 143) (j := 4) dX12_pour_143 rfl ?_
                          refine jw_icmp_ge (pc := 145) (tgt := 152) dX12_pour_145 (by decide) (fun c => ?_) (fun c => ?_)
                          · replace h := h.1 c
                            refine jw_iconst (pc := 152) (v := 0) dX12_pour_152 rfl ?_
                            refine jw_istore (pc := 153) (ls' := [(6, .int (0 : Int32)), (0, .ref (x.2.2.2 0)), (1, .int a1), (2, .int a2), (3, .int a3), (4, .int a4), (5, .int a5)]) dX12_pour_153 (by decide) rfl ?_
                            refine jw_iconst (pc := 155) (v := 0) dX12_pour_155 rfl ?_
                            refine jw_istore (pc := 156) (ls' := [(7, .int (0 : Int32)), (6, .int (0 : Int32)), (0, .ref (x.2.2.2 0)), (1, .int a1), (2, .int a2), (3, .int a3), (4, .int a4), (5, .int a5)]) dX12_pour_156 (by decide) rfl ?_
                            exact jw_sub [2, 3, 4, 5, 6, 7, 1, 0] rfl h
                          · replace h := h.2 c
                            refine jw_iconst (pc := 148) (v := 1) dX12_pour_148 rfl ?_
                            refine jw_goto (pc := 149) (tgt := 153) dX12_pour_149 (by decide) ?_
                            refine jw_istore (pc := 153) (ls' := [(6, .int (1 : Int32)), (0, .ref (x.2.2.2 0)), (1, .int a1), (2, .int a2), (3, .int a3), (4, .int a4), (5, .int a5)]) dX12_pour_153 (by decide) rfl ?_
                            refine jw_iconst (pc := 155) (v := 0) dX12_pour_155 rfl ?_
                            refine jw_istore (pc := 156) (ls' := [(7, .int (0 : Int32)), (6, .int (1 : Int32)), (0, .ref (x.2.2.2 0)), (1, .int a1), (2, .int a2), (3, .int a3), (4, .int a4), (5, .int a5)]) dX12_pour_156 (by decide) rfl ?_
                            exact jw_sub [2, 3, 4, 5, 6, 7, 1, 0] rfl h
                        · replace h := h.2 (fun z => c ((jcmp_le _ _).mpr z))
                          refine jw_aload_n (pc := 136) (j := 0) dX12_pour_136 rfl rfl ?_
                          refine jw_iconst (pc := 137) (v := 4) dX12_pour_137 rfl ?_
                          refine jw_callV (pc := 138) (m2 := mX12_no) (As := [.int (4 : Int32)]) (st := []) dX12_pour_138 sM_0 (by decide) rfl rfl gm_X12_no ml_X12_96 rfl (Nat.le_of_ble_eq_true rfl) (JC.mono h ?_)
                          clear h
                          rintro M10 _ ⟨b8, rfl, h⟩
                          refine jw_st (st' := [.int (jb b8)]) rfl ?_
                          exact jw_zret (pc := 141) dX12_pour_141 rfl (jb_01 _) ⟨_, rfl, h⟩
                · replace h := h.2 c
                  refine jw_aload_n (pc := 85) (j := 0) dX12_pour_85 rfl rfl ?_
                  refine jw_bipush (pc := 86) (v := 6) dX12_pour_86 rfl ?_
                  refine jw_callV (pc := 88) (m2 := mX12_no) (As := [.int (6 : Int32)]) (st := []) dX12_pour_88 sM_0 (by decide) rfl rfl gm_X12_no ml_X12_96 rfl (Nat.le_of_ble_eq_true rfl) (JC.mono h ?_)
                  clear h
                  rintro M11 _ ⟨b9, rfl, h⟩
                  refine jw_st (st' := [.int (jb b9)]) rfl ?_
                  exact jw_zret (pc := 91) dX12_pour_91 rfl (jb_01 _) ⟨_, rfl, h⟩
              · replace h := h.2 c
                refine jw_aload_n (pc := 73) (j := 0) dX12_pour_73 rfl rfl ?_
                refine jw_bipush (pc := 74) (v := 11) dX12_pour_74 rfl ?_
                refine jw_callV (pc := 76) (m2 := mX12_no) (As := [.int (11 : Int32)]) (st := []) dX12_pour_76 sM_0 (by decide) rfl rfl gm_X12_no ml_X12_96 rfl (Nat.le_of_ble_eq_true rfl) (JC.mono h ?_)
                clear h
                rintro M12 _ ⟨b10, rfl, h⟩
                refine jw_st (st' := [.int (jb b10)]) rfl ?_
                exact jw_zret (pc := 79) dX12_pour_79 rfl (jb_01 _) ⟨_, rfl, h⟩
            · replace h := h.2 c
              refine jw_aload_n (pc := 52) (j := 0) dX12_pour_52 rfl rfl ?_
              refine jw_iconst (pc := 53) (v := 3) dX12_pour_53 rfl ?_
              refine jw_callV (pc := 54) (m2 := mX12_no) (As := [.int (3 : Int32)]) (st := []) dX12_pour_54 sM_0 (by decide) rfl rfl gm_X12_no ml_X12_96 rfl (Nat.le_of_ble_eq_true rfl) (JC.mono h ?_)
              clear h
              rintro M13 _ ⟨b11, rfl, h⟩
              refine jw_st (st' := [.int (jb b11)]) rfl ?_
              exact jw_zret (pc := 57) dX12_pour_57 rfl (jb_01 _) ⟨_, rfl, h⟩
        · replace h := h.2 c
          refine jw_aload_n (pc := 28) (j := 0) dX12_pour_28 rfl rfl ?_
          refine jw_iconst (pc := 29) (v := 1) dX12_pour_29 rfl ?_
          refine jw_callV (pc := 30) (m2 := mX12_no) (As := [.int (1 : Int32)]) (st := []) dX12_pour_30 sM_0 (by decide) rfl rfl gm_X12_no ml_X12_96 rfl (Nat.le_of_ble_eq_true rfl) (JC.mono h ?_)
          clear h
          rintro M14 _ ⟨b12, rfl, h⟩
          refine jw_st (st' := [.int (jb b12)]) rfl ?_
          exact jw_zret (pc := 33) dX12_pour_33 rfl (jb_01 _) ⟨_, rfl, h⟩
set_option maxRecDepth 20000 in
theorem b_X12_pour_158 {x : jX} {d : Nat} {M : jM} {P : jM → Bool → Prop} {l1 : Int32} {l2 : Int32} {l3 : Int32} {l4 : Int32} {l5 : Int32} {l6 : Int32} {l7 : Int32} 
    (h : (l5 ≤ l7 → P M true) ∧ (¬ l5 ≤ l7 → (l6 = 0 → JW x jtbM mX12_pour (d + 1) (jZ P) 182 [(0, .ref (x.2.2.2 0)), (1, .int l1), (2, .int l2), (3, .int l3), (4, .int l4), (5, .int l5), (6, .int l6), (7, .int l7)] [.int l7] M) ∧ (¬ l6 = 0 → JW x jtbM mX12_pour (d + 1) (jZ P) 182 [(0, .ref (x.2.2.2 0)), (1, .int l1), (2, .int l2), (3, .int l3), (4, .int l4), (5, .int l5), (6, .int l6), (7, .int l7)] [.int ((l5 - (1 : Int32)) - l7)] M))) :
    JW x jtbM mX12_pour (d + 1) (jZ P) 158 [(0, .ref (x.2.2.2 0)), (1, .int l1), (2, .int l2), (3, .int l3), (4, .int l4), (5, .int l5), (6, .int l6), (7, .int l7)] [] M := by
  refine jw_iload (pc := 158) (j := 7) dX12_pour_158 rfl ?_
  refine jw_iload (pc := 160) (j := 5) dX12_pour_160 rfl ?_
  refine jw_icmp_ge (pc := 162) (tgt := 219) dX12_pour_162 (by decide) (fun c => ?_) (fun c => ?_)
  · replace h := h.1 c
    refine jw_iconst (pc := 219) (v := 1) dX12_pour_219 rfl ?_
    exact jw_zret (pc := 220) dX12_pour_220 rfl (Or.inr rfl) ⟨true, rfl, h⟩
  · replace h := h.2 c
    refine jw_iload (pc := 165) (j := 6) dX12_pour_165 rfl ?_
    refine jw_if_eq (pc := 167) (tgt := 180) dX12_pour_167 (by decide) (fun c => ?_) (fun c => ?_)
    · replace h := h.1 c
      refine jw_iload (pc := 180) (j := 7) dX12_pour_180 rfl ?_
      exact jw_sub [0, 1, 2, 3, 4, 5, 6, 7] rfl h
    · replace h := h.2 c
      refine jw_iload (pc := 170) (j := 5) dX12_pour_170 rfl ?_
      refine jw_iconst (pc := 172) (v := 1) dX12_pour_172 rfl ?_
      refine jw_isub (pc := 173) dX12_pour_173 ?_
      refine jw_iload (pc := 174) (j := 7) dX12_pour_174 rfl ?_
      refine jw_isub (pc := 176) dX12_pour_176 ?_
      refine jw_goto (pc := 177) (tgt := 182) dX12_pour_177 (by decide) ?_
      exact jw_sub [0, 1, 2, 3, 4, 5, 6, 7] rfl h
set_option maxRecDepth 20000 in
theorem b_X12_pour_182 {x : jX} {d : Nat} {M : jM} {P : jM → Bool → Prop} {l1 : Int32} {l2 : Int32} {l3 : Int32} {l4 : Int32} {l5 : Int32} {l6 : Int32} {l7 : Int32} {k0 : Int32} 
    (h : ∃ j1, j1 < 240 ∧ (((60 : Int32) * l1) + l2) + k0 = nI j1 ∧ (∃ j2, j2 < 240 ∧ (((60 : Int32) * l3) + l4) + k0 = nI j2 ∧ (∀ M1, M1 = jrL M 3 (vp_updL (M.2 3) j2 (M.2 3 j1)) → JW x jtbM mX12_pour (d + 1) (jZ P) 158 [(0, .ref (x.2.2.2 0)), (1, .int l1), (2, .int l2), (3, .int l3), (4, .int l4), (5, .int l5), (6, .int l6), (7, .int (l7 + 1))] [] M1))) :
    JW x jtbM mX12_pour (d + 1) (jZ P) 182 [(0, .ref (x.2.2.2 0)), (1, .int l1), (2, .int l2), (3, .int l3), (4, .int l4), (5, .int l5), (6, .int l6), (7, .int l7)] [.int k0] M := by
  refine jw_istore (pc := 182) (ls' := [(8, .int k0), (0, .ref (x.2.2.2 0)), (1, .int l1), (2, .int l2), (3, .int l3), (4, .int l4), (5, .int l5), (6, .int l6), (7, .int l7)]) dX12_pour_182 (by decide) rfl ?_
  refine jw_aload_n (pc := 184) (j := 1) dX12_pour_184 rfl rfl ?_
  refine jw_getR (pc := 185) (r := 3) dX12_pour_185 sM_0 fl_X12_20 (by decide) rfl rfl ?_
  refine jw_bipush (pc := 188) (v := 60) dX12_pour_188 rfl ?_
  refine jw_iload_n (pc := 190) (j := 4) dX12_pour_190 rfl rfl ?_
  refine jw_imul (pc := 191) dX12_pour_191 ?_
  refine jw_iload (pc := 192) (j := 5) dX12_pour_192 rfl ?_
  refine jw_iadd (pc := 194) dX12_pour_194 ?_
  refine jw_iload (pc := 195) (j := 0) dX12_pour_195 rfl ?_
  refine jw_iadd (pc := 197) dX12_pour_197 ?_
  refine jw_aload_n (pc := 198) (j := 1) dX12_pour_198 rfl rfl ?_
  refine jw_getR (pc := 199) (r := 3) dX12_pour_199 sM_0 fl_X12_20 (by decide) rfl rfl ?_
  refine jw_bipush (pc := 202) (v := 60) dX12_pour_202 rfl ?_
  refine jw_iload_n (pc := 204) (j := 2) dX12_pour_204 rfl rfl ?_
  refine jw_imul (pc := 205) dX12_pour_205 ?_
  refine jw_iload_n (pc := 206) (j := 3) dX12_pour_206 rfl rfl ?_
  refine jw_iadd (pc := 207) dX12_pour_207 ?_
  refine jw_iload (pc := 208) (j := 0) dX12_pour_208 rfl ?_
  refine jw_iadd (pc := 210) dX12_pour_210 ?_
  obtain ⟨j1, hj1, ej1, h⟩ := h
  refine jw_lald (pc := 211) (j := j1) dX12_pour_211 sM_3 hj1 ej1 (by decide) ?_
  obtain ⟨j2, hj2, ej2, h⟩ := h
  refine jw_last (pc := 212) (j := j2) dX12_pour_212 sM_3 hj2 ej2 (by decide) ?_
  replace h := h _ rfl
  generalize jrL M 3 (vp_updL (M.2 3) j2 (M.2 3 j1)) = M1 at h ⊢
  refine jw_iinc (pc := 213) (j := 8) (u := l7 + 1) (ls' := [(7, .int (l7 + 1)), (8, .int k0), (0, .ref (x.2.2.2 0)), (1, .int l1), (2, .int l2), (3, .int l3), (4, .int l4), (5, .int l5), (6, .int l6)]) dX12_pour_213 rfl rfl (by decide) rfl ?_
  refine jw_goto (pc := 216) (tgt := 158) dX12_pour_216 (by decide) ?_
  exact jw_sub [2, 3, 4, 5, 6, 7, 8, 0] rfl h
set_option maxRecDepth 20000 in
theorem b_X12_numberOf {x : jX} {d : Nat} {M : jM} {P : jM → Int64 → Prop} {a1 : Int32} {a2 : Int32} 
    (h : ∃ j1, j1 < 240 ∧ ((60 : Int32) * a1) + a2 = nI j1 ∧ (P M (M.2 3 j1))) :
    JC x jtbM mX12_numberOf d [.ref (x.2.2.2 0), .int a1, .int a2] M (jL P) := by
  refine JC.of rfl (Nat.le_of_ble_eq_true rfl) ?_
  refine jw_ls (ls' := [(0, .ref (x.2.2.2 0)), (1, .int a1), (2, .int a2)]) rfl ?_
  refine jw_aload_n (pc := 0) (j := 0) dX12_numberOf_0 rfl rfl ?_
  refine jw_getR (pc := 1) (r := 3) dX12_numberOf_1 sM_0 fl_X12_20 (by decide) rfl rfl ?_
  refine jw_bipush (pc := 4) (v := 60) dX12_numberOf_4 rfl ?_
  refine jw_iload_n (pc := 6) (j := 1) dX12_numberOf_6 rfl rfl ?_
  refine jw_imul (pc := 7) dX12_numberOf_7 ?_
  refine jw_iload_n (pc := 8) (j := 2) dX12_numberOf_8 rfl rfl ?_
  refine jw_iadd (pc := 9) dX12_numberOf_9 ?_
  obtain ⟨j1, hj1, ej1, h⟩ := h
  refine jw_lald (pc := 10) (j := j1) dX12_numberOf_10 sM_3 hj1 ej1 (by decide) ?_
  exact jw_lret (pc := 11) dX12_numberOf_11 rfl ⟨_, rfl, h⟩
set_option maxRecDepth 20000 in
theorem b_X12_isTray {x : jX} {d : Nat} {M : jM} {P : jM → Bool → Prop} {a1 : Int32} 
    (h : JC x jtbM mX12_isIn d [.long a1.toInt64, .long (0 : Int64), .long (3 : Int64)] M (jZ fun M1 b1 => P M1 b1)) :
    JC x jtbM mX12_isTray (d + 1) [.ref (x.2.2.2 0), .int a1] M (jZ P) := by
  refine JC.of rfl (Nat.le_of_ble_eq_true rfl) ?_
  refine jw_ls (ls' := [(0, .ref (x.2.2.2 0)), (1, .int a1)]) rfl ?_
  refine jw_iload_n (pc := 0) (j := 1) dX12_isTray_0 rfl rfl ?_
  refine jw_i2l (pc := 1) dX12_isTray_1 ?_
  refine jw_lconst (pc := 2) (v := 0) dX12_isTray_2 rfl ?_
  refine jw_ldc2 (pc := 3) (v := 3) dX12_isTray_3 kl_X12_114 ?_
  refine jw_callS (pc := 6) (m2 := mX12_isIn) (As := [.long a1.toInt64, .long (0 : Int64), .long (3 : Int64)]) (st := []) dX12_isTray_6 gm_X12_isIn ml_X12_116 rfl (Nat.le_of_ble_eq_true rfl) (JC.mono h ?_)
  clear h
  rintro M1 _ ⟨b1, rfl, h⟩
  refine jw_st (st' := [.int (jb b1)]) rfl ?_
  exact jw_zret (pc := 9) dX12_isTray_9 rfl (jb_01 _) ⟨_, rfl, h⟩
set_option maxRecDepth 20000 in
theorem b_X12_look2 {x : jX} {d : Nat} {M : jM} {P : jM → Int32 → Prop} {a1 : Int32} 
    (h : ((M.1 0 9) ≤ a1 → P M (0 : Int32)) ∧ (¬ (M.1 0 9) ≤ a1 → ∃ j1, j1 < 900 ∧ a1 = nI j1 ∧ (P M ((M.1 4 j1) &&& (255 : Int32))))) :
    JC x jtbM mX12_look2 d [.ref (x.2.2.2 0), .int a1] M (jI P) := by
  refine JC.of rfl (Nat.le_of_ble_eq_true rfl) ?_
  refine jw_ls (ls' := [(0, .ref (x.2.2.2 0)), (1, .int a1)]) rfl ?_
  refine jw_iload_n (pc := 0) (j := 1) dX12_look2_0 rfl rfl ?_
  refine jw_aload_n (pc := 1) (j := 0) dX12_look2_1 rfl rfl ?_
  refine jw_getI (pc := 2) dX12_look2_2 sM_0 fl_X12_120 (by decide) rfl ?_
  refine jw_icmp_ge (pc := 5) (tgt := 21) dX12_look2_5 (by decide) (fun c => ?_) (fun c => ?_)
  · replace h := h.1 c
    refine jw_iconst (pc := 21) (v := 0) dX12_look2_21 rfl ?_
    exact jw_iret (pc := 22) dX12_look2_22 rfl ⟨_, rfl, h⟩
  · replace h := h.2 c
    refine jw_aload_n (pc := 8) (j := 0) dX12_look2_8 rfl rfl ?_
    refine jw_getR (pc := 9) (r := 4) dX12_look2_9 sM_0 fl_X12_24 (by decide) rfl rfl ?_
    refine jw_iload_n (pc := 12) (j := 1) dX12_look2_12 rfl rfl ?_
    obtain ⟨j1, hj1, ej1, h⟩ := h
    refine jw_bald (pc := 13) (j := j1) dX12_look2_13 sM_4 hj1 ej1 (by decide) ?_
    refine jw_sipush (pc := 14) (v := 255) dX12_look2_14 rfl ?_
    refine jw_iand (pc := 17) dX12_look2_17 ?_
    refine jw_goto (pc := 18) (tgt := 22) dX12_look2_18 (by decide) ?_
    exact jw_iret (pc := 22) dX12_look2_22 rfl ⟨_, rfl, h⟩
set_option maxRecDepth 20000 in
theorem b_X12_isLetter {x : jX} {d : Nat} {M : jM} {P : jM → Bool → Prop} {a0 : Int32} 
    (h : (a0 < (97 : Int32) → P M false) ∧ (¬ a0 < (97 : Int32) → ((122 : Int32) < a0 → P M false) ∧ (¬ (122 : Int32) < a0 → P M true))) :
    JC x jtbM mX12_isLetter d [.int a0] M (jZ P) := by
  refine JC.of rfl (Nat.le_of_ble_eq_true rfl) ?_
  refine jw_ls (ls' := [(0, .int a0)]) rfl ?_
  refine jw_iload_n (pc := 0) (j := 0) dX12_isLetter_0 rfl rfl ?_
  refine jw_bipush (pc := 1) (v := 97) dX12_isLetter_1 rfl ?_
  refine jw_icmp_lt (pc := 3) (tgt := 16) dX12_isLetter_3 (by decide) (fun c => ?_) (fun c => ?_)
  · replace h := h.1 c
    refine jw_iconst (pc := 16) (v := 0) dX12_isLetter_16 rfl ?_
    exact jw_zret (pc := 17) dX12_isLetter_17 rfl (Or.inl rfl) ⟨false, rfl, h⟩
  · replace h := h.2 c
    refine jw_iload_n (pc := 6) (j := 0) dX12_isLetter_6 rfl rfl ?_
    refine jw_bipush (pc := 7) (v := 122) dX12_isLetter_7 rfl ?_
    refine jw_icmp_gt (pc := 9) (tgt := 16) dX12_isLetter_9 (by decide) (fun c => ?_) (fun c => ?_)
    · replace h := h.1 c
      refine jw_iconst (pc := 16) (v := 0) dX12_isLetter_16 rfl ?_
      exact jw_zret (pc := 17) dX12_isLetter_17 rfl (Or.inl rfl) ⟨false, rfl, h⟩
    · replace h := h.2 c
      refine jw_iconst (pc := 12) (v := 1) dX12_isLetter_12 rfl ?_
      refine jw_goto (pc := 13) (tgt := 17) dX12_isLetter_13 (by decide) ?_
      exact jw_zret (pc := 17) dX12_isLetter_17 rfl (Or.inr rfl) ⟨true, rfl, h⟩
set_option maxRecDepth 20000 in
theorem b_X12_isDigit {x : jX} {d : Nat} {M : jM} {P : jM → Bool → Prop} {a0 : Int32} 
    (h : (a0 < (48 : Int32) → P M false) ∧ (¬ a0 < (48 : Int32) → ((57 : Int32) < a0 → P M false) ∧ (¬ (57 : Int32) < a0 → P M true))) :
    JC x jtbM mX12_isDigit d [.int a0] M (jZ P) := by
  refine JC.of rfl (Nat.le_of_ble_eq_true rfl) ?_
  refine jw_ls (ls' := [(0, .int a0)]) rfl ?_
  refine jw_iload_n (pc := 0) (j := 0) dX12_isDigit_0 rfl rfl ?_
  refine jw_bipush (pc := 1) (v := 48) dX12_isDigit_1 rfl ?_
  refine jw_icmp_lt (pc := 3) (tgt := 16) dX12_isDigit_3 (by decide) (fun c => ?_) (fun c => ?_)
  · replace h := h.1 c
    refine jw_iconst (pc := 16) (v := 0) dX12_isDigit_16 rfl ?_
    exact jw_zret (pc := 17) dX12_isDigit_17 rfl (Or.inl rfl) ⟨false, rfl, h⟩
  · replace h := h.2 c
    refine jw_iload_n (pc := 6) (j := 0) dX12_isDigit_6 rfl rfl ?_
    refine jw_bipush (pc := 7) (v := 57) dX12_isDigit_7 rfl ?_
    refine jw_icmp_gt (pc := 9) (tgt := 16) dX12_isDigit_9 (by decide) (fun c => ?_) (fun c => ?_)
    · replace h := h.1 c
      refine jw_iconst (pc := 16) (v := 0) dX12_isDigit_16 rfl ?_
      exact jw_zret (pc := 17) dX12_isDigit_17 rfl (Or.inl rfl) ⟨false, rfl, h⟩
    · replace h := h.2 c
      refine jw_iconst (pc := 12) (v := 1) dX12_isDigit_12 rfl ?_
      refine jw_goto (pc := 13) (tgt := 17) dX12_isDigit_13 (by decide) ?_
      exact jw_zret (pc := 17) dX12_isDigit_17 rfl (Or.inr rfl) ⟨true, rfl, h⟩
set_option maxRecDepth 20000 in
theorem b_X12_isSignByte {x : jX} {d : Nat} {M : jM} {P : jM → Bool → Prop} {a1 : Int32} 
    (h : (a1 = (59 : Int32) → P M true) ∧ (¬ a1 = (59 : Int32) → (a1 = (60 : Int32) → P M true) ∧ (¬ a1 = (60 : Int32) → (a1 = (62 : Int32) → P M true) ∧ (¬ a1 = (62 : Int32) → (¬ a1 = (61 : Int32) → P M false) ∧ (a1 = (61 : Int32) → P M true))))) :
    JC x jtbM mX12_isSignByte d [.ref (x.2.2.2 0), .int a1] M (jZ P) := by
  refine JC.of rfl (Nat.le_of_ble_eq_true rfl) ?_
  refine jw_ls (ls' := [(0, .ref (x.2.2.2 0)), (1, .int a1)]) rfl ?_
  refine jw_iload_n (pc := 0) (j := 1) dX12_isSignByte_0 rfl rfl ?_
  refine jw_bipush (pc := 1) (v := 59) dX12_isSignByte_1 rfl ?_
  refine jw_icmp_eq (pc := 3) (tgt := 24) dX12_isSignByte_3 (by decide) (fun c => ?_) (fun c => ?_)
  · replace h := h.1 c
    refine jw_iconst (pc := 24) (v := 1) dX12_isSignByte_24 rfl ?_
    refine jw_goto (pc := 25) (tgt := 29) dX12_isSignByte_25 (by decide) ?_
    exact jw_zret (pc := 29) dX12_isSignByte_29 rfl (Or.inr rfl) ⟨true, rfl, h⟩
  · replace h := h.2 c
    refine jw_iload_n (pc := 6) (j := 1) dX12_isSignByte_6 rfl rfl ?_
    refine jw_bipush (pc := 7) (v := 60) dX12_isSignByte_7 rfl ?_
    refine jw_icmp_eq (pc := 9) (tgt := 24) dX12_isSignByte_9 (by decide) (fun c => ?_) (fun c => ?_)
    · replace h := h.1 c
      refine jw_iconst (pc := 24) (v := 1) dX12_isSignByte_24 rfl ?_
      refine jw_goto (pc := 25) (tgt := 29) dX12_isSignByte_25 (by decide) ?_
      exact jw_zret (pc := 29) dX12_isSignByte_29 rfl (Or.inr rfl) ⟨true, rfl, h⟩
    · replace h := h.2 c
      refine jw_iload_n (pc := 12) (j := 1) dX12_isSignByte_12 rfl rfl ?_
      refine jw_bipush (pc := 13) (v := 62) dX12_isSignByte_13 rfl ?_
      refine jw_icmp_eq (pc := 15) (tgt := 24) dX12_isSignByte_15 (by decide) (fun c => ?_) (fun c => ?_)
      · replace h := h.1 c
        refine jw_iconst (pc := 24) (v := 1) dX12_isSignByte_24 rfl ?_
        refine jw_goto (pc := 25) (tgt := 29) dX12_isSignByte_25 (by decide) ?_
        exact jw_zret (pc := 29) dX12_isSignByte_29 rfl (Or.inr rfl) ⟨true, rfl, h⟩
      · replace h := h.2 c
        refine jw_iload_n (pc := 18) (j := 1) dX12_isSignByte_18 rfl rfl ?_
        refine jw_bipush (pc := 19) (v := 61) dX12_isSignByte_19 rfl ?_
        refine jw_icmp_ne (pc := 21) (tgt := 28) dX12_isSignByte_21 (by decide) (fun c => ?_) (fun c => ?_)
        · replace h := h.1 c
          refine jw_iconst (pc := 28) (v := 0) dX12_isSignByte_28 rfl ?_
          exact jw_zret (pc := 29) dX12_isSignByte_29 rfl (Or.inl rfl) ⟨false, rfl, h⟩
        · replace h := h.2 c
          refine jw_iconst (pc := 24) (v := 1) dX12_isSignByte_24 rfl ?_
          refine jw_goto (pc := 25) (tgt := 29) dX12_isSignByte_25 (by decide) ?_
          exact jw_zret (pc := 29) dX12_isSignByte_29 rfl (Or.inr rfl) ⟨true, rfl, h⟩
set_option maxRecDepth 20000 in
theorem b_X12_next {x : jX} {d : Nat} {M : jM} {P : jM → Prop}  
    (h : ∀ M1, M1 = jrI M 0 (upd (M.1 0) 15 (M.1 0 16)) → JW x jtbM mX12_next (d + 1) (jV P) 8 [(0, .ref (x.2.2.2 0))] [] M1) :
    JC x jtbM mX12_next (d + 1) [.ref (x.2.2.2 0)] M (jV P) := by
  refine JC.of rfl (Nat.le_of_ble_eq_true rfl) ?_
  refine jw_ls (ls' := [(0, .ref (x.2.2.2 0))]) rfl ?_
  refine jw_aload_n (pc := 0) (j := 0) dX12_next_0 rfl rfl ?_
  refine jw_aload_n (pc := 1) (j := 0) dX12_next_1 rfl rfl ?_
  refine jw_getI (pc := 2) dX12_next_2 sM_0 fl_X12_123 (by decide) rfl ?_
  refine jw_putI (pc := 5) dX12_next_5 sM_0 fl_X12_126 fw_12_15 (by decide) rfl ?_
  replace h := h _ rfl
  generalize jrI M 0 (upd (M.1 0) 15 (M.1 0 16)) = M1 at h ⊢
  exact jw_sub [0] rfl h
set_option maxRecDepth 20000 in
theorem b_X12_next_8 {x : jX} {d : Nat} {M : jM} {P : jM → Prop}  
    (h : ((M.1 0 9) ≤ (M.1 0 15) → JW x jtbM mX12_next (d + 1) (jV P) 58 [(0, .ref (x.2.2.2 0))] [] M) ∧ (¬ (M.1 0 9) ≤ (M.1 0 15) → JC x jtbM mX12_look2 d [.ref (x.2.2.2 0), .int (M.1 0 15)] M (jI fun M1 r1 => (r1 = (10 : Int32) → ∀ M2, M2 = jrI M1 0 (upd (M1.1 0) 15 ((M1.1 0 15) + (1 : Int32))) → JW x jtbM mX12_next (d + 1) (jV P) 8 [(0, .ref (x.2.2.2 0))] [] M2) ∧ (¬ r1 = (10 : Int32) → JC x jtbM mX12_look2 d [.ref (x.2.2.2 0), .int (M1.1 0 15)] M1 (jI fun M3 r2 => (¬ r2 = (32 : Int32) → JW x jtbM mX12_next (d + 1) (jV P) 58 [(0, .ref (x.2.2.2 0))] [] M3) ∧ (r2 = (32 : Int32) → ∀ M4, M4 = jrI M3 0 (upd (M3.1 0) 15 ((M3.1 0 15) + (1 : Int32))) → JW x jtbM mX12_next (d + 1) (jV P) 8 [(0, .ref (x.2.2.2 0))] [] M4)))))) :
    JW x jtbM mX12_next (d + 1) (jV P) 8 [(0, .ref (x.2.2.2 0))] [] M := by
  refine jw_aload_n (pc := 8) (j := 0) dX12_next_8 rfl rfl ?_
  refine jw_getI (pc := 9) dX12_next_9 sM_0 fl_X12_126 (by decide) rfl ?_
  refine jw_aload_n (pc := 12) (j := 0) dX12_next_12 rfl rfl ?_
  refine jw_getI (pc := 13) dX12_next_13 sM_0 fl_X12_120 (by decide) rfl ?_
  refine jw_icmp_ge (pc := 16) (tgt := 58) dX12_next_16 (by decide) (fun c => ?_) (fun c => ?_)
  · replace h := h.1 c
    exact jw_sub [0] rfl h
  · replace h := h.2 c
    refine jw_aload_n (pc := 19) (j := 0) dX12_next_19 rfl rfl ?_
    refine jw_aload_n (pc := 20) (j := 0) dX12_next_20 rfl rfl ?_
    refine jw_getI (pc := 21) dX12_next_21 sM_0 fl_X12_126 (by decide) rfl ?_
    refine jw_callV (pc := 24) (m2 := mX12_look2) (As := [.int (M.1 0 15)]) (st := []) dX12_next_24 sM_0 (by decide) rfl rfl gm_X12_look2 ml_X12_129 rfl (Nat.le_of_ble_eq_true rfl) (JC.mono h ?_)
    clear h
    rintro M1 _ ⟨r1, rfl, h⟩
    refine jw_st (st' := [.int r1]) rfl ?_
    refine jw_bipush (pc := 27) (v := 10) dX12_next_27 rfl ?_
    refine jw_icmp_eq (pc := 29) (tgt := 45) dX12_next_29 (by decide) (fun c => ?_) (fun c => ?_)
    · replace h := h.1 c
      refine jw_aload_n (pc := 45) (j := 0) dX12_next_45 rfl rfl ?_
      refine jw_dup (pc := 46) dX12_next_46 rfl ?_
      refine jw_getI (pc := 47) dX12_next_47 sM_0 fl_X12_126 (by decide) rfl ?_
      refine jw_iconst (pc := 50) (v := 1) dX12_next_50 rfl ?_
      refine jw_iadd (pc := 51) dX12_next_51 ?_
      refine jw_putI (pc := 52) dX12_next_52 sM_0 fl_X12_126 fw_12_15 (by decide) rfl ?_
      replace h := h _ rfl
      generalize jrI M1 0 (upd (M1.1 0) 15 ((M1.1 0 15) + (1 : Int32))) = M2 at h ⊢
      refine jw_goto (pc := 55) (tgt := 8) dX12_next_55 (by decide) ?_
      exact jw_sub [0] rfl h
    · replace h := h.2 c
      refine jw_aload_n (pc := 32) (j := 0) dX12_next_32 rfl rfl ?_
      refine jw_aload_n (pc := 33) (j := 0) dX12_next_33 rfl rfl ?_
      refine jw_getI (pc := 34) dX12_next_34 sM_0 fl_X12_126 (by decide) rfl ?_
      refine jw_callV (pc := 37) (m2 := mX12_look2) (As := [.int (M1.1 0 15)]) (st := []) dX12_next_37 sM_0 (by decide) rfl rfl gm_X12_look2 ml_X12_129 rfl (Nat.le_of_ble_eq_true rfl) (JC.mono h ?_)
      clear h
      rintro M3 _ ⟨r2, rfl, h⟩
      refine jw_st (st' := [.int r2]) rfl ?_
      refine jw_bipush (pc := 40) (v := 32) dX12_next_40 rfl ?_
      refine jw_icmp_ne (pc := 42) (tgt := 58) dX12_next_42 (by decide) (fun c => ?_) (fun c => ?_)
      · replace h := h.1 c
        exact jw_sub [0] rfl h
      · replace h := h.2 c
        refine jw_aload_n (pc := 45) (j := 0) dX12_next_45 rfl rfl ?_
        refine jw_dup (pc := 46) dX12_next_46 rfl ?_
        refine jw_getI (pc := 47) dX12_next_47 sM_0 fl_X12_126 (by decide) rfl ?_
        refine jw_iconst (pc := 50) (v := 1) dX12_next_50 rfl ?_
        refine jw_iadd (pc := 51) dX12_next_51 ?_
        refine jw_putI (pc := 52) dX12_next_52 sM_0 fl_X12_126 fw_12_15 (by decide) rfl ?_
        replace h := h _ rfl
        generalize jrI M3 0 (upd (M3.1 0) 15 ((M3.1 0 15) + (1 : Int32))) = M4 at h ⊢
        refine jw_goto (pc := 55) (tgt := 8) dX12_next_55 (by decide) ?_
        exact jw_sub [0] rfl h
set_option maxRecDepth 20000 in
theorem b_X12_next_58 {x : jX} {d : Nat} {M : jM} {P : jM → Prop}  
    (h : ∀ M1, M1 = jrI M 0 (upd (M.1 0) 16 (M.1 0 15)) → ((M1.1 0 15) < (M1.1 0 9) → JC x jtbM mX12_look2 d [.ref (x.2.2.2 0), .int (M1.1 0 15)] M1 (jI fun M2 r1 => JC x jtbM mX12_isLetter d [.int r1] M2 (jZ fun M3 b1 => (b1 = false → JC x jtbM mX12_isDigit d [.int r1] M3 (jZ fun M4 b2 => (b2 = false → ∀ M5, M5 = jrI M4 0 (upd (M4.1 0) 16 ((M4.1 0 15) + (1 : Int32))) → ∀ M6, M6 = jrI M5 0 (upd (M5.1 0) 17 r1) → JC x jtbM mX12_isSignByte d [.ref (x.2.2.2 0), .int r1] M6 (jZ fun M7 b3 => (b3 = false → ∀ M8, M8 = jrI M7 0 (upd (M7.1 0) 14 (4 : Int32)) → P M8) ∧ (b3 = true → ∀ M9, M9 = jrI M7 0 (upd (M7.1 0) 14 (3 : Int32)) → P M9))) ∧ (b2 = true → ∀ M10, M10 = jrI M4 0 (upd (M4.1 0) 17 (0 : Int32)) → JW x jtbM mX12_next (d + 1) (jV P) 210 [(0, .ref (x.2.2.2 0))] [] M10))) ∧ (b1 = true → ∀ M11, M11 = jrI M3 0 (upd (M3.1 0) 14 (1 : Int32)) → ∀ M12, M12 = jrL M11 0 (vp_updL (M11.2 0) 22 (0 : Int64)) → JW x jtbM mX12_next (d + 1) (jV P) 109 [(0, .ref (x.2.2.2 0))] [] M12)))) ∧ (¬ (M1.1 0 15) < (M1.1 0 9) → ∀ M13, M13 = jrI M1 0 (upd (M1.1 0) 14 (0 : Int32)) → P M13)) :
    JW x jtbM mX12_next (d + 1) (jV P) 58 [(0, .ref (x.2.2.2 0))] [] M := by
  refine jw_aload_n (pc := 58) (j := 0) dX12_next_58 rfl rfl ?_
  refine jw_aload_n (pc := 59) (j := 0) dX12_next_59 rfl rfl ?_
  refine jw_getI (pc := 60) dX12_next_60 sM_0 fl_X12_126 (by decide) rfl ?_
  refine jw_putI (pc := 63) dX12_next_63 sM_0 fl_X12_123 fw_12_16 (by decide) rfl ?_
  replace h := h _ rfl
  generalize jrI M 0 (upd (M.1 0) 16 (M.1 0 15)) = M1 at h ⊢
  refine jw_aload_n (pc := 66) (j := 0) dX12_next_66 rfl rfl ?_
  refine jw_getI (pc := 67) dX12_next_67 sM_0 fl_X12_126 (by decide) rfl ?_
  refine jw_aload_n (pc := 70) (j := 0) dX12_next_70 rfl rfl ?_
  refine jw_getI (pc := 71) dX12_next_71 sM_0 fl_X12_120 (by decide) rfl ?_
  refine jw_icmp_lt (pc := 74) (tgt := 83) dX12_next_74 (by decide) (fun c => ?_) (fun c => ?_)
  · replace h := h.1 c
    refine jw_aload_n (pc := 83) (j := 0) dX12_next_83 rfl rfl ?_
    refine jw_aload_n (pc := 84) (j := 0) dX12_next_84 rfl rfl ?_
    refine jw_getI (pc := 85) dX12_next_85 sM_0 fl_X12_126 (by decide) rfl ?_
    refine jw_callV (pc := 88) (m2 := mX12_look2) (As := [.int (M1.1 0 15)]) (st := []) dX12_next_88 sM_0 (by decide) rfl rfl gm_X12_look2 ml_X12_129 rfl (Nat.le_of_ble_eq_true rfl) (JC.mono h ?_)
    clear h
    rintro M2 _ ⟨r1, rfl, h⟩
    refine jw_st (st' := [.int r1]) rfl ?_
    refine jw_istore_n (pc := 91) (ls' := [(1, .int r1), (0, .ref (x.2.2.2 0))]) dX12_next_91 rfl (by decide) rfl ?_
    refine jw_iload_n (pc := 92) (j := 0) dX12_next_92 rfl rfl ?_
    refine jw_callS (pc := 93) (m2 := mX12_isLetter) (As := [.int r1]) (st := []) dX12_next_93 gm_X12_isLetter ml_X12_135 rfl (Nat.le_of_ble_eq_true rfl) (JC.mono h ?_)
    clear h
    rintro M3 _ ⟨b1, rfl, h⟩
    refine jw_st (st' := [.int (jb b1)]) rfl ?_
    refine jw_if_eq (pc := 96) (tgt := 198) dX12_next_96 (by decide) (fun c => ?_) (fun c => ?_)
    · replace h := h.1 ((jb_0 _).mp c)
      refine jw_iload_n (pc := 198) (j := 0) dX12_next_198 rfl rfl ?_
      refine jw_callS (pc := 199) (m2 := mX12_isDigit) (As := [.int r1]) (st := []) dX12_next_199 gm_X12_isDigit ml_X12_148 rfl (Nat.le_of_ble_eq_true rfl) (JC.mono h ?_)
      clear h
      rintro M4 _ ⟨b2, rfl, h⟩
      refine jw_st (st' := [.int (jb b2)]) rfl ?_
      refine jw_if_eq (pc := 202) (tgt := 298) dX12_next_202 (by decide) (fun c => ?_) (fun c => ?_)
      · replace h := h.1 ((jb_0 _).mp c)
        refine jw_aload_n (pc := 298) (j := 1) dX12_next_298 rfl rfl ?_
        refine jw_aload_n (pc := 299) (j := 1) dX12_next_299 rfl rfl ?_
        refine jw_getI (pc := 300) dX12_next_300 sM_0 fl_X12_126 (by decide) rfl ?_
        refine jw_iconst (pc := 303) (v := 1) dX12_next_303 rfl ?_
        refine jw_iadd (pc := 304) dX12_next_304 ?_
        refine jw_putI (pc := 305) dX12_next_305 sM_0 fl_X12_123 fw_12_16 (by decide) rfl ?_
        replace h := h _ rfl
        generalize jrI M4 0 (upd (M4.1 0) 16 ((M4.1 0 15) + (1 : Int32))) = M5 at h ⊢
        refine jw_aload_n (pc := 308) (j := 1) dX12_next_308 rfl rfl ?_
        refine jw_iload_n (pc := 309) (j := 0) dX12_next_309 rfl rfl ?_
        refine jw_putI (pc := 310) dX12_next_310 sM_0 fl_X12_151 fw_12_17 (by decide) rfl ?_
        replace h := h _ rfl
        generalize jrI M5 0 (upd (M5.1 0) 17 r1) = M6 at h ⊢
        refine jw_aload_n (pc := 313) (j := 1) dX12_next_313 rfl rfl ?_
        refine jw_aload_n (pc := 314) (j := 1) dX12_next_314 rfl rfl ?_
        refine jw_iload_n (pc := 315) (j := 0) dX12_next_315 rfl rfl ?_
        refine jw_callV (pc := 316) (m2 := mX12_isSignByte) (As := [.int r1]) (st := [.ref (x.2.2.2 0)]) dX12_next_316 sM_0 (by decide) rfl rfl gm_X12_isSignByte ml_X12_154 rfl (Nat.le_of_ble_eq_true rfl) (JC.mono h ?_)
        clear h
        rintro M7 _ ⟨b3, rfl, h⟩
        refine jw_st (st' := [.int (jb b3), .ref (x.2.2.2 0)]) rfl ?_
        refine jw_if_eq (pc := 319) (tgt := 326) dX12_next_319 (by decide) (fun c => ?_) (fun c => ?_)
        · replace h := h.1 ((jb_0 _).mp c)
          refine jw_iconst (pc := 326) (v := 4) dX12_next_326 rfl ?_
          refine jw_putI (pc := 327) dX12_next_327 sM_0 fl_X12_132 fw_12_14 (by decide) rfl ?_
          replace h := h _ rfl
          generalize jrI M7 0 (upd (M7.1 0) 14 (4 : Int32)) = M8 at h ⊢
          exact jw_vret (pc := 330) dX12_next_330 rfl ⟨rfl, h⟩
        · replace h := h.2 (jb_ne c)
          refine jw_iconst (pc := 322) (v := 3) dX12_next_322 rfl ?_
          refine jw_goto (pc := 323) (tgt := 327) dX12_next_323 (by decide) ?_
          refine jw_putI (pc := 327) dX12_next_327 sM_0 fl_X12_132 fw_12_14 (by decide) rfl ?_
          replace h := h _ rfl
          generalize jrI M7 0 (upd (M7.1 0) 14 (3 : Int32)) = M9 at h ⊢
          exact jw_vret (pc := 330) dX12_next_330 rfl ⟨rfl, h⟩
      · replace h := h.2 (jb_ne c)
        refine jw_aload_n (pc := 205) (j := 1) dX12_next_205 rfl rfl ?_
        refine jw_iconst (pc := 206) (v := 0) dX12_next_206 rfl ?_
        refine jw_putI (pc := 207) dX12_next_207 sM_0 fl_X12_151 fw_12_17 (by decide) rfl ?_
        replace h := h _ rfl
        generalize jrI M4 0 (upd (M4.1 0) 17 (0 : Int32)) = M10 at h ⊢
        exact jw_sub [1] rfl h
    · replace h := h.2 (jb_ne c)
      refine jw_aload_n (pc := 99) (j := 1) dX12_next_99 rfl rfl ?_
      refine jw_iconst (pc := 100) (v := 1) dX12_next_100 rfl ?_
      refine jw_putI (pc := 101) dX12_next_101 sM_0 fl_X12_132 fw_12_14 (by decide) rfl ?_
      replace h := h _ rfl
      generalize jrI M3 0 (upd (M3.1 0) 14 (1 : Int32)) = M11 at h ⊢
      refine jw_aload_n (pc := 104) (j := 1) dX12_next_104 rfl rfl ?_
      refine jw_lconst (pc := 105) (v := 0) dX12_next_105 rfl ?_
      refine jw_putJ (pc := 106) dX12_next_106 sM_0 fl_X12_138 fw_12_22 (by decide) rfl ?_
      replace h := h _ rfl
      generalize jrL M11 0 (vp_updL (M11.2 0) 22 (0 : Int64)) = M12 at h ⊢
      exact jw_sub [1] rfl h
  · replace h := h.2 c
    refine jw_aload_n (pc := 77) (j := 0) dX12_next_77 rfl rfl ?_
    refine jw_iconst (pc := 78) (v := 0) dX12_next_78 rfl ?_
    refine jw_putI (pc := 79) dX12_next_79 sM_0 fl_X12_132 fw_12_14 (by decide) rfl ?_
    replace h := h _ rfl
    generalize jrI M1 0 (upd (M1.1 0) 14 (0 : Int32)) = M13 at h ⊢
    exact jw_vret (pc := 82) dX12_next_82 rfl ⟨rfl, h⟩
set_option maxRecDepth 20000 in
theorem b_X12_next_109 {x : jX} {d : Nat} {M : jM} {P : jM → Prop}  
    (h : JC x jtbM mX12_look2 d [.ref (x.2.2.2 0), .int (M.1 0 16)] M (jI fun M1 r1 => JC x jtbM mX12_isLetter d [.int r1] M1 (jZ fun M2 b1 => (b1 = false → ∀ M3, M3 = jrI M2 0 (upd (M2.1 0) 18 ((M2.1 0 16) - (M2.1 0 15))) → P M3) ∧ (b1 = true → ((8 : Int32) ≤ ((M2.1 0 16) - (M2.1 0 15)) → ∀ M4, M4 = jrL M2 0 (vp_updL (M2.2 0) 22 (-1 : Int64)) → ∀ M5, M5 = jrI M4 0 (upd (M4.1 0) 16 ((M4.1 0 16) + (1 : Int32))) → JW x jtbM mX12_next (d + 1) (jV P) 109 [(0, .ref (x.2.2.2 0))] [] M5) ∧ (¬ (8 : Int32) ≤ ((M2.1 0 16) - (M2.1 0 15)) → JC x jtbM mX12_look2 d [.ref (x.2.2.2 0), .int (M2.1 0 16)] M2 (jI fun M6 r2 => ∀ M7, M7 = jrL M6 0 (vp_updL (M6.2 0) 22 ((((M2.2 0 22) * (32 : Int64)) + r2.toInt64) - (96 : Int64))) → ∀ M8, M8 = jrI M7 0 (upd (M7.1 0) 16 ((M7.1 0 16) + (1 : Int32))) → JW x jtbM mX12_next (d + 1) (jV P) 109 [(0, .ref (x.2.2.2 0))] [] M8)))))) :
    JW x jtbM mX12_next (d + 1) (jV P) 109 [(0, .ref (x.2.2.2 0))] [] M := by
  refine jw_aload_n (pc := 109) (j := 0) dX12_next_109 rfl rfl ?_
  refine jw_aload_n (pc := 110) (j := 0) dX12_next_110 rfl rfl ?_
  refine jw_getI (pc := 111) dX12_next_111 sM_0 fl_X12_123 (by decide) rfl ?_
  refine jw_callV (pc := 114) (m2 := mX12_look2) (As := [.int (M.1 0 16)]) (st := []) dX12_next_114 sM_0 (by decide) rfl rfl gm_X12_look2 ml_X12_129 rfl (Nat.le_of_ble_eq_true rfl) (JC.mono h ?_)
  clear h
  rintro M1 _ ⟨r1, rfl, h⟩
  refine jw_st (st' := [.int r1]) rfl ?_
  refine jw_callS (pc := 117) (m2 := mX12_isLetter) (As := [.int r1]) (st := []) dX12_next_117 gm_X12_isLetter ml_X12_135 rfl (Nat.le_of_ble_eq_true rfl) (JC.mono h ?_)
  clear h
  rintro M2 _ ⟨b1, rfl, h⟩
  refine jw_st (st' := [.int (jb b1)]) rfl ?_
  refine jw_if_eq (pc := 120) (tgt := 182) dX12_next_120 (by decide) (fun c => ?_) (fun c => ?_)
  · replace h := h.1 ((jb_0 _).mp c)
    refine jw_aload_n (pc := 182) (j := 0) dX12_next_182 rfl rfl ?_
    refine jw_aload_n (pc := 183) (j := 0) dX12_next_183 rfl rfl ?_
    refine jw_getI (pc := 184) dX12_next_184 sM_0 fl_X12_123 (by decide) rfl ?_
    refine jw_aload_n (pc := 187) (j := 0) dX12_next_187 rfl rfl ?_
    refine jw_getI (pc := 188) dX12_next_188 sM_0 fl_X12_126 (by decide) rfl ?_
    refine jw_isub (pc := 191) dX12_next_191 ?_
    refine jw_putI (pc := 192) dX12_next_192 sM_0 fl_X12_145 fw_12_18 (by decide) rfl ?_
    replace h := h _ rfl
    generalize jrI M2 0 (upd (M2.1 0) 18 ((M2.1 0 16) - (M2.1 0 15))) = M3 at h ⊢
    refine jw_goto (pc := 195) (tgt := 330) dX12_next_195 (by decide) ?_
    exact jw_vret (pc := 330) dX12_next_330 rfl ⟨rfl, h⟩
  · replace h := h.2 (jb_ne c)
    refine jw_aload_n (pc := 123) (j := 0) dX12_next_123 rfl rfl ?_
    refine jw_aload_n (pc := 124) (j := 0) dX12_next_124 rfl rfl ?_
    refine jw_getI (pc := 125) dX12_next_125 sM_0 fl_X12_123 (by decide) rfl ?_
    refine jw_aload_n (pc := 128) (j := 0) dX12_next_128 rfl rfl ?_
    refine jw_getI (pc := 129) dX12_next_129 sM_0 fl_X12_126 (by decide) rfl ?_
    refine jw_isub (pc := 132) dX12_next_132 ?_
    refine jw_bipush (pc := 133) (v := 8) dX12_next_133 rfl ?_
    refine jw_icmp_ge (pc := 135) (tgt := 163) dX12_next_135 (by decide) (fun c => ?_) (fun c => ?_)
    · replace h := h.1 c
      refine jw_ldc2 (pc := 163) (v := -1) dX12_next_163 kl_X12_112 ?_
      refine jw_putJ (pc := 166) dX12_next_166 sM_0 fl_X12_138 fw_12_22 (by decide) rfl ?_
      replace h := h _ rfl
      generalize jrL M2 0 (vp_updL (M2.2 0) 22 (-1 : Int64)) = M4 at h ⊢
      refine jw_aload_n (pc := 169) (j := 0) dX12_next_169 rfl rfl ?_
      refine jw_dup (pc := 170) dX12_next_170 rfl ?_
      refine jw_getI (pc := 171) dX12_next_171 sM_0 fl_X12_123 (by decide) rfl ?_
      refine jw_iconst (pc := 174) (v := 1) dX12_next_174 rfl ?_
      refine jw_iadd (pc := 175) dX12_next_175 ?_
      refine jw_putI (pc := 176) dX12_next_176 sM_0 fl_X12_123 fw_12_16 (by decide) rfl ?_
      replace h := h _ rfl
      generalize jrI M4 0 (upd (M4.1 0) 16 ((M4.1 0 16) + (1 : Int32))) = M5 at h ⊢
      refine jw_goto (pc := 179) (tgt := 109) dX12_next_179 (by decide) ?_
      exact jw_sub [0] rfl h
    · replace h := h.2 c
      refine jw_aload_n (pc := 138) (j := 0) dX12_next_138 rfl rfl ?_
      refine jw_getL (pc := 139) dX12_next_139 sM_0 fl_X12_138 (by decide) rfl ?_
      refine jw_ldc2 (pc := 142) (v := 32) dX12_next_142 kl_X12_141 ?_
      refine jw_lmul (pc := 145) dX12_next_145 ?_
      refine jw_aload_n (pc := 146) (j := 0) dX12_next_146 rfl rfl ?_
      refine jw_aload_n (pc := 147) (j := 0) dX12_next_147 rfl rfl ?_
      refine jw_getI (pc := 148) dX12_next_148 sM_0 fl_X12_123 (by decide) rfl ?_
      refine jw_callV (pc := 151) (m2 := mX12_look2) (As := [.int (M2.1 0 16)]) (st := [.long ((M2.2 0 22) * (32 : Int64)), .ref (x.2.2.2 0)]) dX12_next_151 sM_0 (by decide) rfl rfl gm_X12_look2 ml_X12_129 rfl (Nat.le_of_ble_eq_true rfl) (JC.mono h ?_)
      clear h
      rintro M6 _ ⟨r2, rfl, h⟩
      refine jw_st (st' := [.int r2, .long ((M2.2 0 22) * (32 : Int64)), .ref (x.2.2.2 0)]) rfl ?_
      refine jw_i2l (pc := 154) dX12_next_154 ?_
      refine jw_ladd (pc := 155) dX12_next_155 ?_
      refine jw_ldc2 (pc := 156) (v := 96) dX12_next_156 kl_X12_143 ?_
      refine jw_lsub (pc := 159) dX12_next_159 ?_
      refine jw_goto (pc := 160) (tgt := 166) dX12_next_160 (by decide) ?_
      refine jw_putJ (pc := 166) dX12_next_166 sM_0 fl_X12_138 fw_12_22 (by decide) rfl ?_
      replace h := h _ rfl
      generalize jrL M6 0 (vp_updL (M6.2 0) 22 ((((M2.2 0 22) * (32 : Int64)) + r2.toInt64) - (96 : Int64))) = M7 at h ⊢
      refine jw_aload_n (pc := 169) (j := 0) dX12_next_169 rfl rfl ?_
      refine jw_dup (pc := 170) dX12_next_170 rfl ?_
      refine jw_getI (pc := 171) dX12_next_171 sM_0 fl_X12_123 (by decide) rfl ?_
      refine jw_iconst (pc := 174) (v := 1) dX12_next_174 rfl ?_
      refine jw_iadd (pc := 175) dX12_next_175 ?_
      refine jw_putI (pc := 176) dX12_next_176 sM_0 fl_X12_123 fw_12_16 (by decide) rfl ?_
      replace h := h _ rfl
      generalize jrI M7 0 (upd (M7.1 0) 16 ((M7.1 0 16) + (1 : Int32))) = M8 at h ⊢
      refine jw_goto (pc := 179) (tgt := 109) dX12_next_179 (by decide) ?_
      exact jw_sub [0] rfl h
set_option maxRecDepth 20000 in
theorem b_X12_next_210 {x : jX} {d : Nat} {M : jM} {P : jM → Prop}  
    (h : JC x jtbM mX12_look2 d [.ref (x.2.2.2 0), .int (M.1 0 16)] M (jI fun M1 r1 => JC x jtbM mX12_isDigit d [.int r1] M1 (jZ fun M2 b1 => (b1 = false → (((M2.1 0 16) - (M2.1 0 15)) ≤ (4 : Int32) → ∀ M3, M3 = jrI M2 0 (upd (M2.1 0) 14 (2 : Int32)) → P M3) ∧ (¬ ((M2.1 0 16) - (M2.1 0 15)) ≤ (4 : Int32) → ∀ M4, M4 = jrI M2 0 (upd (M2.1 0) 14 (4 : Int32)) → P M4)) ∧ (b1 = true → ((4 : Int32) ≤ ((M2.1 0 16) - (M2.1 0 15)) → ∀ M5, M5 = jrI M2 0 (upd (M2.1 0) 16 ((M2.1 0 16) + (1 : Int32))) → JW x jtbM mX12_next (d + 1) (jV P) 210 [(0, .ref (x.2.2.2 0))] [] M5) ∧ (¬ (4 : Int32) ≤ ((M2.1 0 16) - (M2.1 0 15)) → JC x jtbM mX12_look2 d [.ref (x.2.2.2 0), .int (M2.1 0 16)] M2 (jI fun M6 r2 => ∀ M7, M7 = jrI M6 0 (upd (M6.1 0) 17 ((((10 : Int32) * (M2.1 0 17)) + r2) - (48 : Int32))) → ∀ M8, M8 = jrI M7 0 (upd (M7.1 0) 16 ((M7.1 0 16) + (1 : Int32))) → JW x jtbM mX12_next (d + 1) (jV P) 210 [(0, .ref (x.2.2.2 0))] [] M8)))))) :
    JW x jtbM mX12_next (d + 1) (jV P) 210 [(0, .ref (x.2.2.2 0))] [] M := by
  refine jw_aload_n (pc := 210) (j := 0) dX12_next_210 rfl rfl ?_
  refine jw_aload_n (pc := 211) (j := 0) dX12_next_211 rfl rfl ?_
  refine jw_getI (pc := 212) dX12_next_212 sM_0 fl_X12_123 (by decide) rfl ?_
  refine jw_callV (pc := 215) (m2 := mX12_look2) (As := [.int (M.1 0 16)]) (st := []) dX12_next_215 sM_0 (by decide) rfl rfl gm_X12_look2 ml_X12_129 rfl (Nat.le_of_ble_eq_true rfl) (JC.mono h ?_)
  clear h
  rintro M1 _ ⟨r1, rfl, h⟩
  refine jw_st (st' := [.int r1]) rfl ?_
  refine jw_callS (pc := 218) (m2 := mX12_isDigit) (As := [.int r1]) (st := []) dX12_next_218 gm_X12_isDigit ml_X12_148 rfl (Nat.le_of_ble_eq_true rfl) (JC.mono h ?_)
  clear h
  rintro M2 _ ⟨b1, rfl, h⟩
  refine jw_st (st' := [.int (jb b1)]) rfl ?_
  refine jw_if_eq (pc := 221) (tgt := 273) dX12_next_221 (by decide) (fun c => ?_) (fun c => ?_)
  · replace h := h.1 ((jb_0 _).mp c)
    refine jw_aload_n (pc := 273) (j := 0) dX12_next_273 rfl rfl ?_
    refine jw_aload_n (pc := 274) (j := 0) dX12_next_274 rfl rfl ?_
    refine jw_getI (pc := 275) dX12_next_275 sM_0 fl_X12_123 (by decide) rfl ?_
    refine jw_aload_n (pc := 278) (j := 0) dX12_next_278 rfl rfl ?_
    refine jw_getI (pc := 279) dX12_next_279 sM_0 fl_X12_126 (by decide) rfl ?_
    refine jw_isub (pc := 282) dX12_next_282 ?_
    refine jw_iconst (pc := 283) (v := 4) dX12_next_283 rfl ?_
    refine jw_icmp_le (pc := 284) (tgt := 291) dX12_next_284 (by decide) (fun c => ?_) (fun c => ?_)
    · replace h := h.1 c
      refine jw_iconst (pc := 291) (v := 2) dX12_next_291 rfl ?_
      refine jw_putI (pc := 292) dX12_next_292 sM_0 fl_X12_132 fw_12_14 (by decide) rfl ?_
      replace h := h _ rfl
      generalize jrI M2 0 (upd (M2.1 0) 14 (2 : Int32)) = M3 at h ⊢
      refine jw_goto (pc := 295) (tgt := 330) dX12_next_295 (by decide) ?_
      exact jw_vret (pc := 330) dX12_next_330 rfl ⟨rfl, h⟩
    · replace h := h.2 c
      refine jw_iconst (pc := 287) (v := 4) dX12_next_287 rfl ?_
      refine jw_goto (pc := 288) (tgt := 292) dX12_next_288 (by decide) ?_
      refine jw_putI (pc := 292) dX12_next_292 sM_0 fl_X12_132 fw_12_14 (by decide) rfl ?_
      replace h := h _ rfl
      generalize jrI M2 0 (upd (M2.1 0) 14 (4 : Int32)) = M4 at h ⊢
      refine jw_goto (pc := 295) (tgt := 330) dX12_next_295 (by decide) ?_
      exact jw_vret (pc := 330) dX12_next_330 rfl ⟨rfl, h⟩
  · replace h := h.2 (jb_ne c)
    refine jw_aload_n (pc := 224) (j := 0) dX12_next_224 rfl rfl ?_
    refine jw_getI (pc := 225) dX12_next_225 sM_0 fl_X12_123 (by decide) rfl ?_
    refine jw_aload_n (pc := 228) (j := 0) dX12_next_228 rfl rfl ?_
    refine jw_getI (pc := 229) dX12_next_229 sM_0 fl_X12_126 (by decide) rfl ?_
    refine jw_isub (pc := 232) dX12_next_232 ?_
    refine jw_iconst (pc := 233) (v := 4) dX12_next_233 rfl ?_
    refine jw_icmp_ge (pc := 234) (tgt := 260) dX12_next_234 (by decide) (fun c => ?_) (fun c => ?_)
    · replace h := h.1 c
      refine jw_aload_n (pc := 260) (j := 0) dX12_next_260 rfl rfl ?_
      refine jw_dup (pc := 261) dX12_next_261 rfl ?_
      refine jw_getI (pc := 262) dX12_next_262 sM_0 fl_X12_123 (by decide) rfl ?_
      refine jw_iconst (pc := 265) (v := 1) dX12_next_265 rfl ?_
      refine jw_iadd (pc := 266) dX12_next_266 ?_
      refine jw_putI (pc := 267) dX12_next_267 sM_0 fl_X12_123 fw_12_16 (by decide) rfl ?_
      replace h := h _ rfl
      generalize jrI M2 0 (upd (M2.1 0) 16 ((M2.1 0 16) + (1 : Int32))) = M5 at h ⊢
      refine jw_goto (pc := 270) (tgt := 210) dX12_next_270 (by decide) ?_
      exact jw_sub [0] rfl h
    · replace h := h.2 c
      refine jw_aload_n (pc := 237) (j := 0) dX12_next_237 rfl rfl ?_
      refine jw_bipush (pc := 238) (v := 10) dX12_next_238 rfl ?_
      refine jw_aload_n (pc := 240) (j := 0) dX12_next_240 rfl rfl ?_
      refine jw_getI (pc := 241) dX12_next_241 sM_0 fl_X12_151 (by decide) rfl ?_
      refine jw_imul (pc := 244) dX12_next_244 ?_
      refine jw_aload_n (pc := 245) (j := 0) dX12_next_245 rfl rfl ?_
      refine jw_aload_n (pc := 246) (j := 0) dX12_next_246 rfl rfl ?_
      refine jw_getI (pc := 247) dX12_next_247 sM_0 fl_X12_123 (by decide) rfl ?_
      refine jw_callV (pc := 250) (m2 := mX12_look2) (As := [.int (M2.1 0 16)]) (st := [.int ((10 : Int32) * (M2.1 0 17)), .ref (x.2.2.2 0)]) dX12_next_250 sM_0 (by decide) rfl rfl gm_X12_look2 ml_X12_129 rfl (Nat.le_of_ble_eq_true rfl) (JC.mono h ?_)
      clear h
      rintro M6 _ ⟨r2, rfl, h⟩
      refine jw_st (st' := [.int r2, .int ((10 : Int32) * (M2.1 0 17)), .ref (x.2.2.2 0)]) rfl ?_
      refine jw_iadd (pc := 253) dX12_next_253 ?_
      refine jw_bipush (pc := 254) (v := 48) dX12_next_254 rfl ?_
      refine jw_isub (pc := 256) dX12_next_256 ?_
      refine jw_putI (pc := 257) dX12_next_257 sM_0 fl_X12_151 fw_12_17 (by decide) rfl ?_
      replace h := h _ rfl
      generalize jrI M6 0 (upd (M6.1 0) 17 ((((10 : Int32) * (M2.1 0 17)) + r2) - (48 : Int32))) = M7 at h ⊢
      refine jw_aload_n (pc := 260) (j := 0) dX12_next_260 rfl rfl ?_
      refine jw_dup (pc := 261) dX12_next_261 rfl ?_
      refine jw_getI (pc := 262) dX12_next_262 sM_0 fl_X12_123 (by decide) rfl ?_
      refine jw_iconst (pc := 265) (v := 1) dX12_next_265 rfl ?_
      refine jw_iadd (pc := 266) dX12_next_266 ?_
      refine jw_putI (pc := 267) dX12_next_267 sM_0 fl_X12_123 fw_12_16 (by decide) rfl ?_
      replace h := h _ rfl
      generalize jrI M7 0 (upd (M7.1 0) 16 ((M7.1 0 16) + (1 : Int32))) = M8 at h ⊢
      refine jw_goto (pc := 270) (tgt := 210) dX12_next_270 (by decide) ?_
      exact jw_sub [0] rfl h
set_option maxRecDepth 20000 in
theorem b_X12_isSign {x : jX} {d : Nat} {M : jM} {P : jM → Bool → Prop} {a1 : Int32} 
    (h : (¬ (M.1 0 14) = (3 : Int32) → P M false) ∧ ((M.1 0 14) = (3 : Int32) → (¬ (M.1 0 17) = a1 → P M false) ∧ ((M.1 0 17) = a1 → P M true))) :
    JC x jtbM mX12_isSign d [.ref (x.2.2.2 0), .int a1] M (jZ P) := by
  refine JC.of rfl (Nat.le_of_ble_eq_true rfl) ?_
  refine jw_ls (ls' := [(0, .ref (x.2.2.2 0)), (1, .int a1)]) rfl ?_
  refine jw_aload_n (pc := 0) (j := 0) dX12_isSign_0 rfl rfl ?_
  refine jw_getI (pc := 1) dX12_isSign_1 sM_0 fl_X12_132 (by decide) rfl ?_
  refine jw_iconst (pc := 4) (v := 3) dX12_isSign_4 rfl ?_
  refine jw_icmp_ne (pc := 5) (tgt := 20) dX12_isSign_5 (by decide) (fun c => ?_) (fun c => ?_)
  · replace h := h.1 c
    refine jw_iconst (pc := 20) (v := 0) dX12_isSign_20 rfl ?_
    exact jw_zret (pc := 21) dX12_isSign_21 rfl (Or.inl rfl) ⟨false, rfl, h⟩
  · replace h := h.2 c
    refine jw_aload_n (pc := 8) (j := 0) dX12_isSign_8 rfl rfl ?_
    refine jw_getI (pc := 9) dX12_isSign_9 sM_0 fl_X12_151 (by decide) rfl ?_
    refine jw_iload_n (pc := 12) (j := 1) dX12_isSign_12 rfl rfl ?_
    refine jw_icmp_ne (pc := 13) (tgt := 20) dX12_isSign_13 (by decide) (fun c => ?_) (fun c => ?_)
    · replace h := h.1 c
      refine jw_iconst (pc := 20) (v := 0) dX12_isSign_20 rfl ?_
      exact jw_zret (pc := 21) dX12_isSign_21 rfl (Or.inl rfl) ⟨false, rfl, h⟩
    · replace h := h.2 c
      refine jw_iconst (pc := 16) (v := 1) dX12_isSign_16 rfl ?_
      refine jw_goto (pc := 17) (tgt := 21) dX12_isSign_17 (by decide) ?_
      exact jw_zret (pc := 21) dX12_isSign_21 rfl (Or.inr rfl) ⟨true, rfl, h⟩
set_option maxRecDepth 20000 in
theorem b_X12_spelled {x : jX} {d : Nat} {M : jM} {P : jM → Int64 → Prop} {a0 : Int32} {a1 : Int32} {a2 : Int32} {a3 : Int32} {a4 : Int32} {a5 : Int32} 
    (h : (a1 ≤ 0 → JW x jtbM mX12_spelled d (jL P) 30 [(2, .int a2), (3, .int a3), (4, .int a4), (5, .int a5)] [.long (a0.toInt64 - (96 : Int64))] M) ∧ (¬ a1 ≤ 0 → JW x jtbM mX12_spelled d (jL P) 30 [(2, .int a2), (3, .int a3), (4, .int a4), (5, .int a5)] [.long ((((a0.toInt64 - (96 : Int64)) * (32 : Int64)) + a1.toInt64) - (96 : Int64))] M)) :
    JC x jtbM mX12_spelled d [.int a0, .int a1, .int a2, .int a3, .int a4, .int a5] M (jL P) := by
  refine JC.of rfl (Nat.le_of_ble_eq_true rfl) ?_
  refine jw_ls (ls' := [(0, .int a0), (1, .int a1), (2, .int a2), (3, .int a3), (4, .int a4), (5, .int a5)]) rfl ?_
  refine jw_iload_n (pc := 0) (j := 0) dX12_spelled_0 rfl rfl ?_
  refine jw_i2l (pc := 1) dX12_spelled_1 ?_
  refine jw_ldc2 (pc := 2) (v := 96) dX12_spelled_2 kl_X12_143 ?_
  refine jw_lsub (pc := 5) dX12_spelled_5 ?_
  refine jw_lstore (pc := 6) (ls' := [(6, .long (a0.toInt64 - (96 : Int64))), (0, .int a0), (1, .int a1), (2, .int a2), (3, .int a3), (4, .int a4), (5, .int a5)]) dX12_spelled_6 (by decide) rfl ?_
  refine jw_iload_n (pc := 8) (j := 2) dX12_spelled_8 rfl rfl ?_
  refine jw_if_le (pc := 9) (tgt := 28) dX12_spelled_9 (by decide) (fun c => ?_) (fun c => ?_)
  · replace h := h.1 c
    refine jw_lload (pc := 28) (j := 0) dX12_spelled_28 rfl ?_
    exact jw_sub [3, 4, 5, 6] rfl h
  · replace h := h.2 c
    refine jw_lload (pc := 12) (j := 0) dX12_spelled_12 rfl ?_
    refine jw_ldc2 (pc := 14) (v := 32) dX12_spelled_14 kl_X12_141 ?_
    refine jw_lmul (pc := 17) dX12_spelled_17 ?_
    refine jw_iload_n (pc := 18) (j := 2) dX12_spelled_18 rfl rfl ?_
    refine jw_i2l (pc := 19) dX12_spelled_19 ?_
    refine jw_ladd (pc := 20) dX12_spelled_20 ?_
    refine jw_ldc2 (pc := 21) (v := 96) dX12_spelled_21 kl_X12_143 ?_
    refine jw_lsub (pc := 24) dX12_spelled_24 ?_
    refine jw_goto (pc := 25) (tgt := 30) dX12_spelled_25 (by decide) ?_
    exact jw_sub [3, 4, 5, 6] rfl h
set_option maxRecDepth 20000 in
theorem b_X12_spelled_30 {x : jX} {d : Nat} {M : jM} {P : jM → Int64 → Prop} {l2 : Int32} {l3 : Int32} {l4 : Int32} {l5 : Int32} {k0 : Int64} 
    (h : (l2 ≤ 0 → JW x jtbM mX12_spelled d (jL P) 54 [(3, .int l3), (4, .int l4), (5, .int l5)] [.long k0] M) ∧ (¬ l2 ≤ 0 → JW x jtbM mX12_spelled d (jL P) 54 [(3, .int l3), (4, .int l4), (5, .int l5)] [.long (((k0 * (32 : Int64)) + l2.toInt64) - (96 : Int64))] M)) :
    JW x jtbM mX12_spelled d (jL P) 30 [(2, .int l2), (3, .int l3), (4, .int l4), (5, .int l5)] [.long k0] M := by
  refine jw_lstore (pc := 30) (ls' := [(6, .long k0), (2, .int l2), (3, .int l3), (4, .int l4), (5, .int l5)]) dX12_spelled_30 (by decide) rfl ?_
  refine jw_iload_n (pc := 32) (j := 1) dX12_spelled_32 rfl rfl ?_
  refine jw_if_le (pc := 33) (tgt := 52) dX12_spelled_33 (by decide) (fun c => ?_) (fun c => ?_)
  · replace h := h.1 c
    refine jw_lload (pc := 52) (j := 0) dX12_spelled_52 rfl ?_
    exact jw_sub [2, 3, 4] rfl h
  · replace h := h.2 c
    refine jw_lload (pc := 36) (j := 0) dX12_spelled_36 rfl ?_
    refine jw_ldc2 (pc := 38) (v := 32) dX12_spelled_38 kl_X12_141 ?_
    refine jw_lmul (pc := 41) dX12_spelled_41 ?_
    refine jw_iload_n (pc := 42) (j := 1) dX12_spelled_42 rfl rfl ?_
    refine jw_i2l (pc := 43) dX12_spelled_43 ?_
    refine jw_ladd (pc := 44) dX12_spelled_44 ?_
    refine jw_ldc2 (pc := 45) (v := 96) dX12_spelled_45 kl_X12_143 ?_
    refine jw_lsub (pc := 48) dX12_spelled_48 ?_
    refine jw_goto (pc := 49) (tgt := 54) dX12_spelled_49 (by decide) ?_
    exact jw_sub [2, 3, 4] rfl h
set_option maxRecDepth 20000 in
theorem b_X12_spelled_54 {x : jX} {d : Nat} {M : jM} {P : jM → Int64 → Prop} {l3 : Int32} {l4 : Int32} {l5 : Int32} {k0 : Int64} 
    (h : (l3 ≤ 0 → JW x jtbM mX12_spelled d (jL P) 78 [(4, .int l4), (5, .int l5)] [.long k0] M) ∧ (¬ l3 ≤ 0 → JW x jtbM mX12_spelled d (jL P) 78 [(4, .int l4), (5, .int l5)] [.long (((k0 * (32 : Int64)) + l3.toInt64) - (96 : Int64))] M)) :
    JW x jtbM mX12_spelled d (jL P) 54 [(3, .int l3), (4, .int l4), (5, .int l5)] [.long k0] M := by
  refine jw_lstore (pc := 54) (ls' := [(6, .long k0), (3, .int l3), (4, .int l4), (5, .int l5)]) dX12_spelled_54 (by decide) rfl ?_
  refine jw_iload_n (pc := 56) (j := 1) dX12_spelled_56 rfl rfl ?_
  refine jw_if_le (pc := 57) (tgt := 76) dX12_spelled_57 (by decide) (fun c => ?_) (fun c => ?_)
  · replace h := h.1 c
    refine jw_lload (pc := 76) (j := 0) dX12_spelled_76 rfl ?_
    exact jw_sub [2, 3] rfl h
  · replace h := h.2 c
    refine jw_lload (pc := 60) (j := 0) dX12_spelled_60 rfl ?_
    refine jw_ldc2 (pc := 62) (v := 32) dX12_spelled_62 kl_X12_141 ?_
    refine jw_lmul (pc := 65) dX12_spelled_65 ?_
    refine jw_iload_n (pc := 66) (j := 1) dX12_spelled_66 rfl rfl ?_
    refine jw_i2l (pc := 67) dX12_spelled_67 ?_
    refine jw_ladd (pc := 68) dX12_spelled_68 ?_
    refine jw_ldc2 (pc := 69) (v := 96) dX12_spelled_69 kl_X12_143 ?_
    refine jw_lsub (pc := 72) dX12_spelled_72 ?_
    refine jw_goto (pc := 73) (tgt := 78) dX12_spelled_73 (by decide) ?_
    exact jw_sub [2, 3] rfl h
set_option maxRecDepth 20000 in
theorem b_X12_spelled_78 {x : jX} {d : Nat} {M : jM} {P : jM → Int64 → Prop} {l4 : Int32} {l5 : Int32} {k0 : Int64} 
    (h : (l4 ≤ 0 → JW x jtbM mX12_spelled d (jL P) 104 [(5, .int l5)] [.long k0] M) ∧ (¬ l4 ≤ 0 → JW x jtbM mX12_spelled d (jL P) 104 [(5, .int l5)] [.long (((k0 * (32 : Int64)) + l4.toInt64) - (96 : Int64))] M)) :
    JW x jtbM mX12_spelled d (jL P) 78 [(4, .int l4), (5, .int l5)] [.long k0] M := by
  refine jw_lstore (pc := 78) (ls' := [(6, .long k0), (4, .int l4), (5, .int l5)]) dX12_spelled_78 (by decide) rfl ?_
  refine jw_iload (pc := 80) (j := 1) dX12_spelled_80 rfl ?_
  refine jw_if_le (pc := 82) (tgt := 102) dX12_spelled_82 (by decide) (fun c => ?_) (fun c => ?_)
  · replace h := h.1 c
    refine jw_lload (pc := 102) (j := 0) dX12_spelled_102 rfl ?_
    exact jw_sub [2] rfl h
  · replace h := h.2 c
    refine jw_lload (pc := 85) (j := 0) dX12_spelled_85 rfl ?_
    refine jw_ldc2 (pc := 87) (v := 32) dX12_spelled_87 kl_X12_141 ?_
    refine jw_lmul (pc := 90) dX12_spelled_90 ?_
    refine jw_iload (pc := 91) (j := 1) dX12_spelled_91 rfl ?_
    refine jw_i2l (pc := 93) dX12_spelled_93 ?_
    refine jw_ladd (pc := 94) dX12_spelled_94 ?_
    refine jw_ldc2 (pc := 95) (v := 96) dX12_spelled_95 kl_X12_143 ?_
    refine jw_lsub (pc := 98) dX12_spelled_98 ?_
    refine jw_goto (pc := 99) (tgt := 104) dX12_spelled_99 (by decide) ?_
    exact jw_sub [2] rfl h
set_option maxRecDepth 20000 in
theorem b_X12_spelled_104 {x : jX} {d : Nat} {M : jM} {P : jM → Int64 → Prop} {l5 : Int32} {k0 : Int64} 
    (h : (l5 ≤ 0 → P M k0) ∧ (¬ l5 ≤ 0 → P M (((k0 * (32 : Int64)) + l5.toInt64) - (96 : Int64)))) :
    JW x jtbM mX12_spelled d (jL P) 104 [(5, .int l5)] [.long k0] M := by
  refine jw_lstore (pc := 104) (ls' := [(6, .long k0), (5, .int l5)]) dX12_spelled_104 (by decide) rfl ?_
  refine jw_iload (pc := 106) (j := 1) dX12_spelled_106 rfl ?_
  refine jw_if_le (pc := 108) (tgt := 128) dX12_spelled_108 (by decide) (fun c => ?_) (fun c => ?_)
  · replace h := h.1 c
    refine jw_lload (pc := 128) (j := 0) dX12_spelled_128 rfl ?_
    exact jw_lret (pc := 130) dX12_spelled_130 rfl ⟨_, rfl, h⟩
  · replace h := h.2 c
    refine jw_lload (pc := 111) (j := 0) dX12_spelled_111 rfl ?_
    refine jw_ldc2 (pc := 113) (v := 32) dX12_spelled_113 kl_X12_141 ?_
    refine jw_lmul (pc := 116) dX12_spelled_116 ?_
    refine jw_iload (pc := 117) (j := 1) dX12_spelled_117 rfl ?_
    refine jw_i2l (pc := 119) dX12_spelled_119 ?_
    refine jw_ladd (pc := 120) dX12_spelled_120 ?_
    refine jw_ldc2 (pc := 121) (v := 96) dX12_spelled_121 kl_X12_143 ?_
    refine jw_lsub (pc := 124) dX12_spelled_124 ?_
    refine jw_goto (pc := 125) (tgt := 130) dX12_spelled_125 (by decide) ?_
    exact jw_lret (pc := 130) dX12_spelled_130 rfl ⟨_, rfl, h⟩
set_option maxRecDepth 20000 in
theorem b_X12_isWord {x : jX} {d : Nat} {M : jM} {P : jM → Bool → Prop} {a1 : Int64} 
    (h : (¬ (M.1 0 14) = (1 : Int32) → P M false) ∧ ((M.1 0 14) = (1 : Int32) → (¬ (M.2 0 22) = a1 → P M false) ∧ ((M.2 0 22) = a1 → P M true))) :
    JC x jtbM mX12_isWord d [.ref (x.2.2.2 0), .long a1] M (jZ P) := by
  refine JC.of rfl (Nat.le_of_ble_eq_true rfl) ?_
  refine jw_ls (ls' := [(0, .ref (x.2.2.2 0)), (1, .long a1)]) rfl ?_
  refine jw_aload_n (pc := 0) (j := 0) dX12_isWord_0 rfl rfl ?_
  refine jw_getI (pc := 1) dX12_isWord_1 sM_0 fl_X12_132 (by decide) rfl ?_
  refine jw_iconst (pc := 4) (v := 1) dX12_isWord_4 rfl ?_
  refine jw_icmp_ne (pc := 5) (tgt := 21) dX12_isWord_5 (by decide) (fun c => ?_) (fun c => ?_)
  · replace h := h.1 c
    refine jw_iconst (pc := 21) (v := 0) dX12_isWord_21 rfl ?_
    exact jw_zret (pc := 22) dX12_isWord_22 rfl (Or.inl rfl) ⟨false, rfl, h⟩
  · replace h := h.2 c
    refine jw_aload_n (pc := 8) (j := 0) dX12_isWord_8 rfl rfl ?_
    refine jw_getL (pc := 9) dX12_isWord_9 sM_0 fl_X12_138 (by decide) rfl ?_
    refine jw_lload_n (pc := 12) (j := 1) dX12_isWord_12 rfl rfl ?_
    refine jw_lcmp (pc := 13) dX12_isWord_13 ?_
    refine jw_if_ne (pc := 14) (tgt := 21) dX12_isWord_14 (by decide) (fun c => ?_) (fun c => ?_)
    · replace h := h.1 (fun z => c ((jcmp_eq _ _).mpr z))
      refine jw_iconst (pc := 21) (v := 0) dX12_isWord_21 rfl ?_
      exact jw_zret (pc := 22) dX12_isWord_22 rfl (Or.inl rfl) ⟨false, rfl, h⟩
    · replace h := h.2 ((jcmp_eq _ _).mp c)
      refine jw_iconst (pc := 17) (v := 1) dX12_isWord_17 rfl ?_
      refine jw_goto (pc := 18) (tgt := 22) dX12_isWord_18 (by decide) ?_
      exact jw_zret (pc := 22) dX12_isWord_22 rfl (Or.inr rfl) ⟨true, rfl, h⟩
set_option maxRecDepth 20000 in
theorem b_X12_sideWord {x : jX} {d : Nat} {M : jM} {P : jM → Int32 → Prop}  
    (h : JC x jtbM mX12_spelled d [.int (110 : Int32), .int (0 : Int32), .int (0 : Int32), .int (0 : Int32), .int (0 : Int32), .int (0 : Int32)] M (jL fun M1 r1 => JC x jtbM mX12_isWord d [.ref (x.2.2.2 0), .long r1] M1 (jZ fun M2 b1 => (b1 = false → JC x jtbM mX12_spelled d [.int (110 : Int32), .int (101 : Int32), .int (0 : Int32), .int (0 : Int32), .int (0 : Int32), .int (0 : Int32)] M2 (jL fun M3 r2 => JC x jtbM mX12_isWord d [.ref (x.2.2.2 0), .long r2] M3 (jZ fun M4 b2 => (b2 = false → JC x jtbM mX12_spelled d [.int (101 : Int32), .int (0 : Int32), .int (0 : Int32), .int (0 : Int32), .int (0 : Int32), .int (0 : Int32)] M4 (jL fun M5 r3 => JC x jtbM mX12_isWord d [.ref (x.2.2.2 0), .long r3] M5 (jZ fun M6 b3 => (b3 = false → JC x jtbM mX12_spelled d [.int (115 : Int32), .int (101 : Int32), .int (0 : Int32), .int (0 : Int32), .int (0 : Int32), .int (0 : Int32)] M6 (jL fun M7 r4 => JC x jtbM mX12_isWord d [.ref (x.2.2.2 0), .long r4] M7 (jZ fun M8 b4 => (b4 = false → JC x jtbM mX12_spelled d [.int (115 : Int32), .int (0 : Int32), .int (0 : Int32), .int (0 : Int32), .int (0 : Int32), .int (0 : Int32)] M8 (jL fun M9 r5 => JC x jtbM mX12_isWord d [.ref (x.2.2.2 0), .long r5] M9 (jZ fun M10 b5 => (b5 = false → JC x jtbM mX12_spelled d [.int (115 : Int32), .int (119 : Int32), .int (0 : Int32), .int (0 : Int32), .int (0 : Int32), .int (0 : Int32)] M10 (jL fun M11 r6 => JC x jtbM mX12_isWord d [.ref (x.2.2.2 0), .long r6] M11 (jZ fun M12 b6 => (b6 = false → JC x jtbM mX12_spelled d [.int (119 : Int32), .int (0 : Int32), .int (0 : Int32), .int (0 : Int32), .int (0 : Int32), .int (0 : Int32)] M12 (jL fun M13 r7 => JC x jtbM mX12_isWord d [.ref (x.2.2.2 0), .long r7] M13 (jZ fun M14 b7 => (b7 = false → JC x jtbM mX12_spelled d [.int (110 : Int32), .int (119 : Int32), .int (0 : Int32), .int (0 : Int32), .int (0 : Int32), .int (0 : Int32)] M14 (jL fun M15 r8 => JC x jtbM mX12_isWord d [.ref (x.2.2.2 0), .long r8] M15 (jZ fun M16 b8 => (b8 = false → P M16 (-1 : Int32)) ∧ (b8 = true → P M16 (7 : Int32))))) ∧ (b7 = true → P M14 (6 : Int32))))) ∧ (b6 = true → P M12 (5 : Int32))))) ∧ (b5 = true → P M10 (4 : Int32))))) ∧ (b4 = true → P M8 (3 : Int32))))) ∧ (b3 = true → P M6 (2 : Int32))))) ∧ (b2 = true → P M4 (1 : Int32))))) ∧ (b1 = true → P M2 (0 : Int32))))) :
    JC x jtbM mX12_sideWord (d + 1) [.ref (x.2.2.2 0)] M (jI P) := by
  refine JC.of rfl (Nat.le_of_ble_eq_true rfl) ?_
  refine jw_ls (ls' := [(0, .ref (x.2.2.2 0))]) rfl ?_
  refine jw_aload_n (pc := 0) (j := 0) dX12_sideWord_0 rfl rfl ?_
  refine jw_bipush (pc := 1) (v := 110) dX12_sideWord_1 rfl ?_
  refine jw_iconst (pc := 3) (v := 0) dX12_sideWord_3 rfl ?_
  refine jw_iconst (pc := 4) (v := 0) dX12_sideWord_4 rfl ?_
  refine jw_iconst (pc := 5) (v := 0) dX12_sideWord_5 rfl ?_
  refine jw_iconst (pc := 6) (v := 0) dX12_sideWord_6 rfl ?_
  refine jw_iconst (pc := 7) (v := 0) dX12_sideWord_7 rfl ?_
  refine jw_callS (pc := 8) (m2 := mX12_spelled) (As := [.int (110 : Int32), .int (0 : Int32), .int (0 : Int32), .int (0 : Int32), .int (0 : Int32), .int (0 : Int32)]) (st := [.ref (x.2.2.2 0)]) dX12_sideWord_8 gm_X12_spelled ml_X12_157 rfl (Nat.le_of_ble_eq_true rfl) (JC.mono h ?_)
  clear h
  rintro M1 _ ⟨r1, rfl, h⟩
  refine jw_st (st' := [.long r1, .ref (x.2.2.2 0)]) rfl ?_
  refine jw_callV (pc := 11) (m2 := mX12_isWord) (As := [.long r1]) (st := []) dX12_sideWord_11 sM_0 (by decide) rfl rfl gm_X12_isWord ml_X12_161 rfl (Nat.le_of_ble_eq_true rfl) (JC.mono h ?_)
  clear h
  rintro M2 _ ⟨b1, rfl, h⟩
  refine jw_st (st' := [.int (jb b1)]) rfl ?_
  refine jw_if_eq (pc := 14) (tgt := 19) dX12_sideWord_14 (by decide) (fun c => ?_) (fun c => ?_)
  · replace h := h.1 ((jb_0 _).mp c)
    refine jw_aload_n (pc := 19) (j := 0) dX12_sideWord_19 rfl rfl ?_
    refine jw_bipush (pc := 20) (v := 110) dX12_sideWord_20 rfl ?_
    refine jw_bipush (pc := 22) (v := 101) dX12_sideWord_22 rfl ?_
    refine jw_iconst (pc := 24) (v := 0) dX12_sideWord_24 rfl ?_
    refine jw_iconst (pc := 25) (v := 0) dX12_sideWord_25 rfl ?_
    refine jw_iconst (pc := 26) (v := 0) dX12_sideWord_26 rfl ?_
    refine jw_iconst (pc := 27) (v := 0) dX12_sideWord_27 rfl ?_
    refine jw_callS (pc := 28) (m2 := mX12_spelled) (As := [.int (110 : Int32), .int (101 : Int32), .int (0 : Int32), .int (0 : Int32), .int (0 : Int32), .int (0 : Int32)]) (st := [.ref (x.2.2.2 0)]) dX12_sideWord_28 gm_X12_spelled ml_X12_157 rfl (Nat.le_of_ble_eq_true rfl) (JC.mono h ?_)
    clear h
    rintro M3 _ ⟨r2, rfl, h⟩
    refine jw_st (st' := [.long r2, .ref (x.2.2.2 0)]) rfl ?_
    refine jw_callV (pc := 31) (m2 := mX12_isWord) (As := [.long r2]) (st := []) dX12_sideWord_31 sM_0 (by decide) rfl rfl gm_X12_isWord ml_X12_161 rfl (Nat.le_of_ble_eq_true rfl) (JC.mono h ?_)
    clear h
    rintro M4 _ ⟨b2, rfl, h⟩
    refine jw_st (st' := [.int (jb b2)]) rfl ?_
    refine jw_if_eq (pc := 34) (tgt := 39) dX12_sideWord_34 (by decide) (fun c => ?_) (fun c => ?_)
    · replace h := h.1 ((jb_0 _).mp c)
      refine jw_aload_n (pc := 39) (j := 0) dX12_sideWord_39 rfl rfl ?_
      refine jw_bipush (pc := 40) (v := 101) dX12_sideWord_40 rfl ?_
      refine jw_iconst (pc := 42) (v := 0) dX12_sideWord_42 rfl ?_
      refine jw_iconst (pc := 43) (v := 0) dX12_sideWord_43 rfl ?_
      refine jw_iconst (pc := 44) (v := 0) dX12_sideWord_44 rfl ?_
      refine jw_iconst (pc := 45) (v := 0) dX12_sideWord_45 rfl ?_
      refine jw_iconst (pc := 46) (v := 0) dX12_sideWord_46 rfl ?_
      refine jw_callS (pc := 47) (m2 := mX12_spelled) (As := [.int (101 : Int32), .int (0 : Int32), .int (0 : Int32), .int (0 : Int32), .int (0 : Int32), .int (0 : Int32)]) (st := [.ref (x.2.2.2 0)]) dX12_sideWord_47 gm_X12_spelled ml_X12_157 rfl (Nat.le_of_ble_eq_true rfl) (JC.mono h ?_)
      clear h
      rintro M5 _ ⟨r3, rfl, h⟩
      refine jw_st (st' := [.long r3, .ref (x.2.2.2 0)]) rfl ?_
      refine jw_callV (pc := 50) (m2 := mX12_isWord) (As := [.long r3]) (st := []) dX12_sideWord_50 sM_0 (by decide) rfl rfl gm_X12_isWord ml_X12_161 rfl (Nat.le_of_ble_eq_true rfl) (JC.mono h ?_)
      clear h
      rintro M6 _ ⟨b3, rfl, h⟩
      refine jw_st (st' := [.int (jb b3)]) rfl ?_
      refine jw_if_eq (pc := 53) (tgt := 58) dX12_sideWord_53 (by decide) (fun c => ?_) (fun c => ?_)
      · replace h := h.1 ((jb_0 _).mp c)
        refine jw_aload_n (pc := 58) (j := 0) dX12_sideWord_58 rfl rfl ?_
        refine jw_bipush (pc := 59) (v := 115) dX12_sideWord_59 rfl ?_
        refine jw_bipush (pc := 61) (v := 101) dX12_sideWord_61 rfl ?_
        refine jw_iconst (pc := 63) (v := 0) dX12_sideWord_63 rfl ?_
        refine jw_iconst (pc := 64) (v := 0) dX12_sideWord_64 rfl ?_
        refine jw_iconst (pc := 65) (v := 0) dX12_sideWord_65 rfl ?_
        refine jw_iconst (pc := 66) (v := 0) dX12_sideWord_66 rfl ?_
        refine jw_callS (pc := 67) (m2 := mX12_spelled) (As := [.int (115 : Int32), .int (101 : Int32), .int (0 : Int32), .int (0 : Int32), .int (0 : Int32), .int (0 : Int32)]) (st := [.ref (x.2.2.2 0)]) dX12_sideWord_67 gm_X12_spelled ml_X12_157 rfl (Nat.le_of_ble_eq_true rfl) (JC.mono h ?_)
        clear h
        rintro M7 _ ⟨r4, rfl, h⟩
        refine jw_st (st' := [.long r4, .ref (x.2.2.2 0)]) rfl ?_
        refine jw_callV (pc := 70) (m2 := mX12_isWord) (As := [.long r4]) (st := []) dX12_sideWord_70 sM_0 (by decide) rfl rfl gm_X12_isWord ml_X12_161 rfl (Nat.le_of_ble_eq_true rfl) (JC.mono h ?_)
        clear h
        rintro M8 _ ⟨b4, rfl, h⟩
        refine jw_st (st' := [.int (jb b4)]) rfl ?_
        refine jw_if_eq (pc := 73) (tgt := 78) dX12_sideWord_73 (by decide) (fun c => ?_) (fun c => ?_)
        · replace h := h.1 ((jb_0 _).mp c)
          refine jw_aload_n (pc := 78) (j := 0) dX12_sideWord_78 rfl rfl ?_
          refine jw_bipush (pc := 79) (v := 115) dX12_sideWord_79 rfl ?_
          refine jw_iconst (pc := 81) (v := 0) dX12_sideWord_81 rfl ?_
          refine jw_iconst (pc := 82) (v := 0) dX12_sideWord_82 rfl ?_
          refine jw_iconst (pc := 83) (v := 0) dX12_sideWord_83 rfl ?_
          refine jw_iconst (pc := 84) (v := 0) dX12_sideWord_84 rfl ?_
          refine jw_iconst (pc := 85) (v := 0) dX12_sideWord_85 rfl ?_
          refine jw_callS (pc := 86) (m2 := mX12_spelled) (As := [.int (115 : Int32), .int (0 : Int32), .int (0 : Int32), .int (0 : Int32), .int (0 : Int32), .int (0 : Int32)]) (st := [.ref (x.2.2.2 0)]) dX12_sideWord_86 gm_X12_spelled ml_X12_157 rfl (Nat.le_of_ble_eq_true rfl) (JC.mono h ?_)
          clear h
          rintro M9 _ ⟨r5, rfl, h⟩
          refine jw_st (st' := [.long r5, .ref (x.2.2.2 0)]) rfl ?_
          refine jw_callV (pc := 89) (m2 := mX12_isWord) (As := [.long r5]) (st := []) dX12_sideWord_89 sM_0 (by decide) rfl rfl gm_X12_isWord ml_X12_161 rfl (Nat.le_of_ble_eq_true rfl) (JC.mono h ?_)
          clear h
          rintro M10 _ ⟨b5, rfl, h⟩
          refine jw_st (st' := [.int (jb b5)]) rfl ?_
          refine jw_if_eq (pc := 92) (tgt := 97) dX12_sideWord_92 (by decide) (fun c => ?_) (fun c => ?_)
          · replace h := h.1 ((jb_0 _).mp c)
            refine jw_aload_n (pc := 97) (j := 0) dX12_sideWord_97 rfl rfl ?_
            refine jw_bipush (pc := 98) (v := 115) dX12_sideWord_98 rfl ?_
            refine jw_bipush (pc := 100) (v := 119) dX12_sideWord_100 rfl ?_
            refine jw_iconst (pc := 102) (v := 0) dX12_sideWord_102 rfl ?_
            refine jw_iconst (pc := 103) (v := 0) dX12_sideWord_103 rfl ?_
            refine jw_iconst (pc := 104) (v := 0) dX12_sideWord_104 rfl ?_
            refine jw_iconst (pc := 105) (v := 0) dX12_sideWord_105 rfl ?_
            refine jw_callS (pc := 106) (m2 := mX12_spelled) (As := [.int (115 : Int32), .int (119 : Int32), .int (0 : Int32), .int (0 : Int32), .int (0 : Int32), .int (0 : Int32)]) (st := [.ref (x.2.2.2 0)]) dX12_sideWord_106 gm_X12_spelled ml_X12_157 rfl (Nat.le_of_ble_eq_true rfl) (JC.mono h ?_)
            clear h
            rintro M11 _ ⟨r6, rfl, h⟩
            refine jw_st (st' := [.long r6, .ref (x.2.2.2 0)]) rfl ?_
            refine jw_callV (pc := 109) (m2 := mX12_isWord) (As := [.long r6]) (st := []) dX12_sideWord_109 sM_0 (by decide) rfl rfl gm_X12_isWord ml_X12_161 rfl (Nat.le_of_ble_eq_true rfl) (JC.mono h ?_)
            clear h
            rintro M12 _ ⟨b6, rfl, h⟩
            refine jw_st (st' := [.int (jb b6)]) rfl ?_
            refine jw_if_eq (pc := 112) (tgt := 117) dX12_sideWord_112 (by decide) (fun c => ?_) (fun c => ?_)
            · replace h := h.1 ((jb_0 _).mp c)
              refine jw_aload_n (pc := 117) (j := 0) dX12_sideWord_117 rfl rfl ?_
              refine jw_bipush (pc := 118) (v := 119) dX12_sideWord_118 rfl ?_
              refine jw_iconst (pc := 120) (v := 0) dX12_sideWord_120 rfl ?_
              refine jw_iconst (pc := 121) (v := 0) dX12_sideWord_121 rfl ?_
              refine jw_iconst (pc := 122) (v := 0) dX12_sideWord_122 rfl ?_
              refine jw_iconst (pc := 123) (v := 0) dX12_sideWord_123 rfl ?_
              refine jw_iconst (pc := 124) (v := 0) dX12_sideWord_124 rfl ?_
              refine jw_callS (pc := 125) (m2 := mX12_spelled) (As := [.int (119 : Int32), .int (0 : Int32), .int (0 : Int32), .int (0 : Int32), .int (0 : Int32), .int (0 : Int32)]) (st := [.ref (x.2.2.2 0)]) dX12_sideWord_125 gm_X12_spelled ml_X12_157 rfl (Nat.le_of_ble_eq_true rfl) (JC.mono h ?_)
              clear h
              rintro M13 _ ⟨r7, rfl, h⟩
              refine jw_st (st' := [.long r7, .ref (x.2.2.2 0)]) rfl ?_
              refine jw_callV (pc := 128) (m2 := mX12_isWord) (As := [.long r7]) (st := []) dX12_sideWord_128 sM_0 (by decide) rfl rfl gm_X12_isWord ml_X12_161 rfl (Nat.le_of_ble_eq_true rfl) (JC.mono h ?_)
              clear h
              rintro M14 _ ⟨b7, rfl, h⟩
              refine jw_st (st' := [.int (jb b7)]) rfl ?_
              refine jw_if_eq (pc := 131) (tgt := 137) dX12_sideWord_131 (by decide) (fun c => ?_) (fun c => ?_)
              · replace h := h.1 ((jb_0 _).mp c)
                refine jw_aload_n (pc := 137) (j := 0) dX12_sideWord_137 rfl rfl ?_
                refine jw_bipush (pc := 138) (v := 110) dX12_sideWord_138 rfl ?_
                refine jw_bipush (pc := 140) (v := 119) dX12_sideWord_140 rfl ?_
                refine jw_iconst (pc := 142) (v := 0) dX12_sideWord_142 rfl ?_
                refine jw_iconst (pc := 143) (v := 0) dX12_sideWord_143 rfl ?_
                refine jw_iconst (pc := 144) (v := 0) dX12_sideWord_144 rfl ?_
                refine jw_iconst (pc := 145) (v := 0) dX12_sideWord_145 rfl ?_
                refine jw_callS (pc := 146) (m2 := mX12_spelled) (As := [.int (110 : Int32), .int (119 : Int32), .int (0 : Int32), .int (0 : Int32), .int (0 : Int32), .int (0 : Int32)]) (st := [.ref (x.2.2.2 0)]) dX12_sideWord_146 gm_X12_spelled ml_X12_157 rfl (Nat.le_of_ble_eq_true rfl) (JC.mono h ?_)
                clear h
                rintro M15 _ ⟨r8, rfl, h⟩
                refine jw_st (st' := [.long r8, .ref (x.2.2.2 0)]) rfl ?_
                refine jw_callV (pc := 149) (m2 := mX12_isWord) (As := [.long r8]) (st := []) dX12_sideWord_149 sM_0 (by decide) rfl rfl gm_X12_isWord ml_X12_161 rfl (Nat.le_of_ble_eq_true rfl) (JC.mono h ?_)
                clear h
                rintro M16 _ ⟨b8, rfl, h⟩
                refine jw_st (st' := [.int (jb b8)]) rfl ?_
                refine jw_if_eq (pc := 152) (tgt := 160) dX12_sideWord_152 (by decide) (fun c => ?_) (fun c => ?_)
                · replace h := h.1 ((jb_0 _).mp c)
                  refine jw_iconst (pc := 160) (v := (-1)) dX12_sideWord_160 rfl ?_
                  exact jw_iret (pc := 161) dX12_sideWord_161 rfl ⟨_, rfl, h⟩
                · replace h := h.2 (jb_ne c)
                  refine jw_bipush (pc := 155) (v := 7) dX12_sideWord_155 rfl ?_
                  refine jw_goto (pc := 157) (tgt := 161) dX12_sideWord_157 (by decide) ?_
                  exact jw_iret (pc := 161) dX12_sideWord_161 rfl ⟨_, rfl, h⟩
              · replace h := h.2 (jb_ne c)
                refine jw_bipush (pc := 134) (v := 6) dX12_sideWord_134 rfl ?_
                exact jw_iret (pc := 136) dX12_sideWord_136 rfl ⟨_, rfl, h⟩
            · replace h := h.2 (jb_ne c)
              refine jw_iconst (pc := 115) (v := 5) dX12_sideWord_115 rfl ?_
              exact jw_iret (pc := 116) dX12_sideWord_116 rfl ⟨_, rfl, h⟩
          · replace h := h.2 (jb_ne c)
            refine jw_iconst (pc := 95) (v := 4) dX12_sideWord_95 rfl ?_
            exact jw_iret (pc := 96) dX12_sideWord_96 rfl ⟨_, rfl, h⟩
        · replace h := h.2 (jb_ne c)
          refine jw_iconst (pc := 76) (v := 3) dX12_sideWord_76 rfl ?_
          exact jw_iret (pc := 77) dX12_sideWord_77 rfl ⟨_, rfl, h⟩
      · replace h := h.2 (jb_ne c)
        refine jw_iconst (pc := 56) (v := 2) dX12_sideWord_56 rfl ?_
        exact jw_iret (pc := 57) dX12_sideWord_57 rfl ⟨_, rfl, h⟩
    · replace h := h.2 (jb_ne c)
      refine jw_iconst (pc := 37) (v := 1) dX12_sideWord_37 rfl ?_
      exact jw_iret (pc := 38) dX12_sideWord_38 rfl ⟨_, rfl, h⟩
  · replace h := h.2 (jb_ne c)
    refine jw_iconst (pc := 17) (v := 0) dX12_sideWord_17 rfl ?_
    exact jw_iret (pc := 18) dX12_sideWord_18 rfl ⟨_, rfl, h⟩
set_option maxRecDepth 20000 in
theorem b_X12_isSize {x : jX} {d : Nat} {M : jM} {P : jM → Bool → Prop}  
    (h : JC x jtbM mX12_spelled d [.int (115 : Int32), .int (105 : Int32), .int (122 : Int32), .int (101 : Int32), .int (0 : Int32), .int (0 : Int32)] M (jL fun M1 r1 => JC x jtbM mX12_isWord d [.ref (x.2.2.2 0), .long r1] M1 (jZ fun M2 b1 => P M2 b1))) :
    JC x jtbM mX12_isSize (d + 1) [.ref (x.2.2.2 0)] M (jZ P) := by
  refine JC.of rfl (Nat.le_of_ble_eq_true rfl) ?_
  refine jw_ls (ls' := [(0, .ref (x.2.2.2 0))]) rfl ?_
  refine jw_aload_n (pc := 0) (j := 0) dX12_isSize_0 rfl rfl ?_
  refine jw_bipush (pc := 1) (v := 115) dX12_isSize_1 rfl ?_
  refine jw_bipush (pc := 3) (v := 105) dX12_isSize_3 rfl ?_
  refine jw_bipush (pc := 5) (v := 122) dX12_isSize_5 rfl ?_
  refine jw_bipush (pc := 7) (v := 101) dX12_isSize_7 rfl ?_
  refine jw_iconst (pc := 9) (v := 0) dX12_isSize_9 rfl ?_
  refine jw_iconst (pc := 10) (v := 0) dX12_isSize_10 rfl ?_
  refine jw_callS (pc := 11) (m2 := mX12_spelled) (As := [.int (115 : Int32), .int (105 : Int32), .int (122 : Int32), .int (101 : Int32), .int (0 : Int32), .int (0 : Int32)]) (st := [.ref (x.2.2.2 0)]) dX12_isSize_11 gm_X12_spelled ml_X12_157 rfl (Nat.le_of_ble_eq_true rfl) (JC.mono h ?_)
  clear h
  rintro M1 _ ⟨r1, rfl, h⟩
  refine jw_st (st' := [.long r1, .ref (x.2.2.2 0)]) rfl ?_
  refine jw_callV (pc := 14) (m2 := mX12_isWord) (As := [.long r1]) (st := []) dX12_isSize_14 sM_0 (by decide) rfl rfl gm_X12_isWord ml_X12_161 rfl (Nat.le_of_ble_eq_true rfl) (JC.mono h ?_)
  clear h
  rintro M2 _ ⟨b1, rfl, h⟩
  refine jw_st (st' := [.int (jb b1)]) rfl ?_
  exact jw_zret (pc := 17) dX12_isSize_17 rfl (jb_01 _) ⟨_, rfl, h⟩
set_option maxRecDepth 20000 in
theorem b_X12_isMost {x : jX} {d : Nat} {M : jM} {P : jM → Bool → Prop}  
    (h : JC x jtbM mX12_spelled d [.int (109 : Int32), .int (111 : Int32), .int (115 : Int32), .int (116 : Int32), .int (0 : Int32), .int (0 : Int32)] M (jL fun M1 r1 => JC x jtbM mX12_isWord d [.ref (x.2.2.2 0), .long r1] M1 (jZ fun M2 b1 => P M2 b1))) :
    JC x jtbM mX12_isMost (d + 1) [.ref (x.2.2.2 0)] M (jZ P) := by
  refine JC.of rfl (Nat.le_of_ble_eq_true rfl) ?_
  refine jw_ls (ls' := [(0, .ref (x.2.2.2 0))]) rfl ?_
  refine jw_aload_n (pc := 0) (j := 0) dX12_isMost_0 rfl rfl ?_
  refine jw_bipush (pc := 1) (v := 109) dX12_isMost_1 rfl ?_
  refine jw_bipush (pc := 3) (v := 111) dX12_isMost_3 rfl ?_
  refine jw_bipush (pc := 5) (v := 115) dX12_isMost_5 rfl ?_
  refine jw_bipush (pc := 7) (v := 116) dX12_isMost_7 rfl ?_
  refine jw_iconst (pc := 9) (v := 0) dX12_isMost_9 rfl ?_
  refine jw_iconst (pc := 10) (v := 0) dX12_isMost_10 rfl ?_
  refine jw_callS (pc := 11) (m2 := mX12_spelled) (As := [.int (109 : Int32), .int (111 : Int32), .int (115 : Int32), .int (116 : Int32), .int (0 : Int32), .int (0 : Int32)]) (st := [.ref (x.2.2.2 0)]) dX12_isMost_11 gm_X12_spelled ml_X12_157 rfl (Nat.le_of_ble_eq_true rfl) (JC.mono h ?_)
  clear h
  rintro M1 _ ⟨r1, rfl, h⟩
  refine jw_st (st' := [.long r1, .ref (x.2.2.2 0)]) rfl ?_
  refine jw_callV (pc := 14) (m2 := mX12_isWord) (As := [.long r1]) (st := []) dX12_isMost_14 sM_0 (by decide) rfl rfl gm_X12_isWord ml_X12_161 rfl (Nat.le_of_ble_eq_true rfl) (JC.mono h ?_)
  clear h
  rintro M2 _ ⟨b1, rfl, h⟩
  refine jw_st (st' := [.int (jb b1)]) rfl ?_
  exact jw_zret (pc := 17) dX12_isMost_17 rfl (jb_01 _) ⟨_, rfl, h⟩
set_option maxRecDepth 20000 in
theorem b_X12_isLeast {x : jX} {d : Nat} {M : jM} {P : jM → Bool → Prop}  
    (h : JC x jtbM mX12_spelled d [.int (108 : Int32), .int (101 : Int32), .int (97 : Int32), .int (115 : Int32), .int (116 : Int32), .int (0 : Int32)] M (jL fun M1 r1 => JC x jtbM mX12_isWord d [.ref (x.2.2.2 0), .long r1] M1 (jZ fun M2 b1 => P M2 b1))) :
    JC x jtbM mX12_isLeast (d + 1) [.ref (x.2.2.2 0)] M (jZ P) := by
  refine JC.of rfl (Nat.le_of_ble_eq_true rfl) ?_
  refine jw_ls (ls' := [(0, .ref (x.2.2.2 0))]) rfl ?_
  refine jw_aload_n (pc := 0) (j := 0) dX12_isLeast_0 rfl rfl ?_
  refine jw_bipush (pc := 1) (v := 108) dX12_isLeast_1 rfl ?_
  refine jw_bipush (pc := 3) (v := 101) dX12_isLeast_3 rfl ?_
  refine jw_bipush (pc := 5) (v := 97) dX12_isLeast_5 rfl ?_
  refine jw_bipush (pc := 7) (v := 115) dX12_isLeast_7 rfl ?_
  refine jw_bipush (pc := 9) (v := 116) dX12_isLeast_9 rfl ?_
  refine jw_iconst (pc := 11) (v := 0) dX12_isLeast_11 rfl ?_
  refine jw_callS (pc := 12) (m2 := mX12_spelled) (As := [.int (108 : Int32), .int (101 : Int32), .int (97 : Int32), .int (115 : Int32), .int (116 : Int32), .int (0 : Int32)]) (st := [.ref (x.2.2.2 0)]) dX12_isLeast_12 gm_X12_spelled ml_X12_157 rfl (Nat.le_of_ble_eq_true rfl) (JC.mono h ?_)
  clear h
  rintro M1 _ ⟨r1, rfl, h⟩
  refine jw_st (st' := [.long r1, .ref (x.2.2.2 0)]) rfl ?_
  refine jw_callV (pc := 15) (m2 := mX12_isWord) (As := [.long r1]) (st := []) dX12_isLeast_15 sM_0 (by decide) rfl rfl gm_X12_isWord ml_X12_161 rfl (Nat.le_of_ble_eq_true rfl) (JC.mono h ?_)
  clear h
  rintro M2 _ ⟨b1, rfl, h⟩
  refine jw_st (st' := [.int (jb b1)]) rfl ?_
  exact jw_zret (pc := 18) dX12_isLeast_18 rfl (jb_01 _) ⟨_, rfl, h⟩
set_option maxRecDepth 20000 in
theorem b_X12_isPrice {x : jX} {d : Nat} {M : jM} {P : jM → Bool → Prop}  
    (h : JC x jtbM mX12_spelled d [.int (112 : Int32), .int (114 : Int32), .int (105 : Int32), .int (99 : Int32), .int (101 : Int32), .int (0 : Int32)] M (jL fun M1 r1 => JC x jtbM mX12_isWord d [.ref (x.2.2.2 0), .long r1] M1 (jZ fun M2 b1 => P M2 b1))) :
    JC x jtbM mX12_isPrice (d + 1) [.ref (x.2.2.2 0)] M (jZ P) := by
  refine JC.of rfl (Nat.le_of_ble_eq_true rfl) ?_
  refine jw_ls (ls' := [(0, .ref (x.2.2.2 0))]) rfl ?_
  refine jw_aload_n (pc := 0) (j := 0) dX12_isPrice_0 rfl rfl ?_
  refine jw_bipush (pc := 1) (v := 112) dX12_isPrice_1 rfl ?_
  refine jw_bipush (pc := 3) (v := 114) dX12_isPrice_3 rfl ?_
  refine jw_bipush (pc := 5) (v := 105) dX12_isPrice_5 rfl ?_
  refine jw_bipush (pc := 7) (v := 99) dX12_isPrice_7 rfl ?_
  refine jw_bipush (pc := 9) (v := 101) dX12_isPrice_9 rfl ?_
  refine jw_iconst (pc := 11) (v := 0) dX12_isPrice_11 rfl ?_
  refine jw_callS (pc := 12) (m2 := mX12_spelled) (As := [.int (112 : Int32), .int (114 : Int32), .int (105 : Int32), .int (99 : Int32), .int (101 : Int32), .int (0 : Int32)]) (st := [.ref (x.2.2.2 0)]) dX12_isPrice_12 gm_X12_spelled ml_X12_157 rfl (Nat.le_of_ble_eq_true rfl) (JC.mono h ?_)
  clear h
  rintro M1 _ ⟨r1, rfl, h⟩
  refine jw_st (st' := [.long r1, .ref (x.2.2.2 0)]) rfl ?_
  refine jw_callV (pc := 15) (m2 := mX12_isWord) (As := [.long r1]) (st := []) dX12_isPrice_15 sM_0 (by decide) rfl rfl gm_X12_isWord ml_X12_161 rfl (Nat.le_of_ble_eq_true rfl) (JC.mono h ?_)
  clear h
  rintro M2 _ ⟨b1, rfl, h⟩
  refine jw_st (st' := [.int (jb b1)]) rfl ?_
  exact jw_zret (pc := 18) dX12_isPrice_18 rfl (jb_01 _) ⟨_, rfl, h⟩
set_option maxRecDepth 20000 in
theorem b_X12_isVillageWord {x : jX} {d : Nat} {M : jM} {P : jM → Bool → Prop}  
    (h : JC x jtbM mX12_spelled d [.int (118 : Int32), .int (105 : Int32), .int (108 : Int32), .int (108 : Int32), .int (97 : Int32), .int (103 : Int32)] M (jL fun M1 r1 => JC x jtbM mX12_isWord d [.ref (x.2.2.2 0), .long (((r1 * (32 : Int64)) + (101 : Int64)) - (96 : Int64))] M1 (jZ fun M2 b1 => P M2 b1))) :
    JC x jtbM mX12_isVillageWord (d + 1) [.ref (x.2.2.2 0)] M (jZ P) := by
  refine JC.of rfl (Nat.le_of_ble_eq_true rfl) ?_
  refine jw_ls (ls' := [(0, .ref (x.2.2.2 0))]) rfl ?_
  refine jw_aload_n (pc := 0) (j := 0) dX12_isVillageWord_0 rfl rfl ?_
  refine jw_bipush (pc := 1) (v := 118) dX12_isVillageWord_1 rfl ?_
  refine jw_bipush (pc := 3) (v := 105) dX12_isVillageWord_3 rfl ?_
  refine jw_bipush (pc := 5) (v := 108) dX12_isVillageWord_5 rfl ?_
  refine jw_bipush (pc := 7) (v := 108) dX12_isVillageWord_7 rfl ?_
  refine jw_bipush (pc := 9) (v := 97) dX12_isVillageWord_9 rfl ?_
  refine jw_bipush (pc := 11) (v := 103) dX12_isVillageWord_11 rfl ?_
  refine jw_callS (pc := 13) (m2 := mX12_spelled) (As := [.int (118 : Int32), .int (105 : Int32), .int (108 : Int32), .int (108 : Int32), .int (97 : Int32), .int (103 : Int32)]) (st := [.ref (x.2.2.2 0)]) dX12_isVillageWord_13 gm_X12_spelled ml_X12_157 rfl (Nat.le_of_ble_eq_true rfl) (JC.mono h ?_)
  clear h
  rintro M1 _ ⟨r1, rfl, h⟩
  refine jw_st (st' := [.long r1, .ref (x.2.2.2 0)]) rfl ?_
  refine jw_ldc2 (pc := 16) (v := 32) dX12_isVillageWord_16 kl_X12_141 ?_
  refine jw_lmul (pc := 19) dX12_isVillageWord_19 ?_
  refine jw_ldc2 (pc := 20) (v := 101) dX12_isVillageWord_20 kl_X12_165 ?_
  refine jw_ladd (pc := 23) dX12_isVillageWord_23 ?_
  refine jw_ldc2 (pc := 24) (v := 96) dX12_isVillageWord_24 kl_X12_143 ?_
  refine jw_lsub (pc := 27) dX12_isVillageWord_27 ?_
  refine jw_callV (pc := 28) (m2 := mX12_isWord) (As := [.long (((r1 * (32 : Int64)) + (101 : Int64)) - (96 : Int64))]) (st := []) dX12_isVillageWord_28 sM_0 (by decide) rfl rfl gm_X12_isWord ml_X12_161 rfl (Nat.le_of_ble_eq_true rfl) (JC.mono h ?_)
  clear h
  rintro M2 _ ⟨b1, rfl, h⟩
  refine jw_st (st' := [.int (jb b1)]) rfl ?_
  exact jw_zret (pc := 31) dX12_isVillageWord_31 rfl (jb_01 _) ⟨_, rfl, h⟩
set_option maxRecDepth 20000 in
theorem b_X12_isSees {x : jX} {d : Nat} {M : jM} {P : jM → Bool → Prop}  
    (h : JC x jtbM mX12_spelled d [.int (115 : Int32), .int (101 : Int32), .int (101 : Int32), .int (115 : Int32), .int (0 : Int32), .int (0 : Int32)] M (jL fun M1 r1 => JC x jtbM mX12_isWord d [.ref (x.2.2.2 0), .long r1] M1 (jZ fun M2 b1 => P M2 b1))) :
    JC x jtbM mX12_isSees (d + 1) [.ref (x.2.2.2 0)] M (jZ P) := by
  refine JC.of rfl (Nat.le_of_ble_eq_true rfl) ?_
  refine jw_ls (ls' := [(0, .ref (x.2.2.2 0))]) rfl ?_
  refine jw_aload_n (pc := 0) (j := 0) dX12_isSees_0 rfl rfl ?_
  refine jw_bipush (pc := 1) (v := 115) dX12_isSees_1 rfl ?_
  refine jw_bipush (pc := 3) (v := 101) dX12_isSees_3 rfl ?_
  refine jw_bipush (pc := 5) (v := 101) dX12_isSees_5 rfl ?_
  refine jw_bipush (pc := 7) (v := 115) dX12_isSees_7 rfl ?_
  refine jw_iconst (pc := 9) (v := 0) dX12_isSees_9 rfl ?_
  refine jw_iconst (pc := 10) (v := 0) dX12_isSees_10 rfl ?_
  refine jw_callS (pc := 11) (m2 := mX12_spelled) (As := [.int (115 : Int32), .int (101 : Int32), .int (101 : Int32), .int (115 : Int32), .int (0 : Int32), .int (0 : Int32)]) (st := [.ref (x.2.2.2 0)]) dX12_isSees_11 gm_X12_spelled ml_X12_157 rfl (Nat.le_of_ble_eq_true rfl) (JC.mono h ?_)
  clear h
  rintro M1 _ ⟨r1, rfl, h⟩
  refine jw_st (st' := [.long r1, .ref (x.2.2.2 0)]) rfl ?_
  refine jw_callV (pc := 14) (m2 := mX12_isWord) (As := [.long r1]) (st := []) dX12_isSees_14 sM_0 (by decide) rfl rfl gm_X12_isWord ml_X12_161 rfl (Nat.le_of_ble_eq_true rfl) (JC.mono h ?_)
  clear h
  rintro M2 _ ⟨b1, rfl, h⟩
  refine jw_st (st' := [.int (jb b1)]) rfl ?_
  exact jw_zret (pc := 17) dX12_isSees_17 rfl (jb_01 _) ⟨_, rfl, h⟩
set_option maxRecDepth 20000 in
theorem b_X12_isRaise {x : jX} {d : Nat} {M : jM} {P : jM → Bool → Prop}  
    (h : JC x jtbM mX12_spelled d [.int (114 : Int32), .int (97 : Int32), .int (105 : Int32), .int (115 : Int32), .int (101 : Int32), .int (0 : Int32)] M (jL fun M1 r1 => JC x jtbM mX12_isWord d [.ref (x.2.2.2 0), .long r1] M1 (jZ fun M2 b1 => P M2 b1))) :
    JC x jtbM mX12_isRaise (d + 1) [.ref (x.2.2.2 0)] M (jZ P) := by
  refine JC.of rfl (Nat.le_of_ble_eq_true rfl) ?_
  refine jw_ls (ls' := [(0, .ref (x.2.2.2 0))]) rfl ?_
  refine jw_aload_n (pc := 0) (j := 0) dX12_isRaise_0 rfl rfl ?_
  refine jw_bipush (pc := 1) (v := 114) dX12_isRaise_1 rfl ?_
  refine jw_bipush (pc := 3) (v := 97) dX12_isRaise_3 rfl ?_
  refine jw_bipush (pc := 5) (v := 105) dX12_isRaise_5 rfl ?_
  refine jw_bipush (pc := 7) (v := 115) dX12_isRaise_7 rfl ?_
  refine jw_bipush (pc := 9) (v := 101) dX12_isRaise_9 rfl ?_
  refine jw_iconst (pc := 11) (v := 0) dX12_isRaise_11 rfl ?_
  refine jw_callS (pc := 12) (m2 := mX12_spelled) (As := [.int (114 : Int32), .int (97 : Int32), .int (105 : Int32), .int (115 : Int32), .int (101 : Int32), .int (0 : Int32)]) (st := [.ref (x.2.2.2 0)]) dX12_isRaise_12 gm_X12_spelled ml_X12_157 rfl (Nat.le_of_ble_eq_true rfl) (JC.mono h ?_)
  clear h
  rintro M1 _ ⟨r1, rfl, h⟩
  refine jw_st (st' := [.long r1, .ref (x.2.2.2 0)]) rfl ?_
  refine jw_callV (pc := 15) (m2 := mX12_isWord) (As := [.long r1]) (st := []) dX12_isRaise_15 sM_0 (by decide) rfl rfl gm_X12_isWord ml_X12_161 rfl (Nat.le_of_ble_eq_true rfl) (JC.mono h ?_)
  clear h
  rintro M2 _ ⟨b1, rfl, h⟩
  refine jw_st (st' := [.int (jb b1)]) rfl ?_
  exact jw_zret (pc := 18) dX12_isRaise_18 rfl (jb_01 _) ⟨_, rfl, h⟩
set_option maxRecDepth 20000 in
theorem b_X12_isLower {x : jX} {d : Nat} {M : jM} {P : jM → Bool → Prop}  
    (h : JC x jtbM mX12_spelled d [.int (108 : Int32), .int (111 : Int32), .int (119 : Int32), .int (101 : Int32), .int (114 : Int32), .int (0 : Int32)] M (jL fun M1 r1 => JC x jtbM mX12_isWord d [.ref (x.2.2.2 0), .long r1] M1 (jZ fun M2 b1 => P M2 b1))) :
    JC x jtbM mX12_isLower (d + 1) [.ref (x.2.2.2 0)] M (jZ P) := by
  refine JC.of rfl (Nat.le_of_ble_eq_true rfl) ?_
  refine jw_ls (ls' := [(0, .ref (x.2.2.2 0))]) rfl ?_
  refine jw_aload_n (pc := 0) (j := 0) dX12_isLower_0 rfl rfl ?_
  refine jw_bipush (pc := 1) (v := 108) dX12_isLower_1 rfl ?_
  refine jw_bipush (pc := 3) (v := 111) dX12_isLower_3 rfl ?_
  refine jw_bipush (pc := 5) (v := 119) dX12_isLower_5 rfl ?_
  refine jw_bipush (pc := 7) (v := 101) dX12_isLower_7 rfl ?_
  refine jw_bipush (pc := 9) (v := 114) dX12_isLower_9 rfl ?_
  refine jw_iconst (pc := 11) (v := 0) dX12_isLower_11 rfl ?_
  refine jw_callS (pc := 12) (m2 := mX12_spelled) (As := [.int (108 : Int32), .int (111 : Int32), .int (119 : Int32), .int (101 : Int32), .int (114 : Int32), .int (0 : Int32)]) (st := [.ref (x.2.2.2 0)]) dX12_isLower_12 gm_X12_spelled ml_X12_157 rfl (Nat.le_of_ble_eq_true rfl) (JC.mono h ?_)
  clear h
  rintro M1 _ ⟨r1, rfl, h⟩
  refine jw_st (st' := [.long r1, .ref (x.2.2.2 0)]) rfl ?_
  refine jw_callV (pc := 15) (m2 := mX12_isWord) (As := [.long r1]) (st := []) dX12_isLower_15 sM_0 (by decide) rfl rfl gm_X12_isWord ml_X12_161 rfl (Nat.le_of_ble_eq_true rfl) (JC.mono h ?_)
  clear h
  rintro M2 _ ⟨b1, rfl, h⟩
  refine jw_st (st' := [.int (jb b1)]) rfl ?_
  exact jw_zret (pc := 18) dX12_isLower_18 rfl (jb_01 _) ⟨_, rfl, h⟩
set_option maxRecDepth 20000 in
theorem b_X12_isBy {x : jX} {d : Nat} {M : jM} {P : jM → Bool → Prop}  
    (h : JC x jtbM mX12_spelled d [.int (98 : Int32), .int (121 : Int32), .int (0 : Int32), .int (0 : Int32), .int (0 : Int32), .int (0 : Int32)] M (jL fun M1 r1 => JC x jtbM mX12_isWord d [.ref (x.2.2.2 0), .long r1] M1 (jZ fun M2 b1 => P M2 b1))) :
    JC x jtbM mX12_isBy (d + 1) [.ref (x.2.2.2 0)] M (jZ P) := by
  refine JC.of rfl (Nat.le_of_ble_eq_true rfl) ?_
  refine jw_ls (ls' := [(0, .ref (x.2.2.2 0))]) rfl ?_
  refine jw_aload_n (pc := 0) (j := 0) dX12_isBy_0 rfl rfl ?_
  refine jw_bipush (pc := 1) (v := 98) dX12_isBy_1 rfl ?_
  refine jw_bipush (pc := 3) (v := 121) dX12_isBy_3 rfl ?_
  refine jw_iconst (pc := 5) (v := 0) dX12_isBy_5 rfl ?_
  refine jw_iconst (pc := 6) (v := 0) dX12_isBy_6 rfl ?_
  refine jw_iconst (pc := 7) (v := 0) dX12_isBy_7 rfl ?_
  refine jw_iconst (pc := 8) (v := 0) dX12_isBy_8 rfl ?_
  refine jw_callS (pc := 9) (m2 := mX12_spelled) (As := [.int (98 : Int32), .int (121 : Int32), .int (0 : Int32), .int (0 : Int32), .int (0 : Int32), .int (0 : Int32)]) (st := [.ref (x.2.2.2 0)]) dX12_isBy_9 gm_X12_spelled ml_X12_157 rfl (Nat.le_of_ble_eq_true rfl) (JC.mono h ?_)
  clear h
  rintro M1 _ ⟨r1, rfl, h⟩
  refine jw_st (st' := [.long r1, .ref (x.2.2.2 0)]) rfl ?_
  refine jw_callV (pc := 12) (m2 := mX12_isWord) (As := [.long r1]) (st := []) dX12_isBy_12 sM_0 (by decide) rfl rfl gm_X12_isWord ml_X12_161 rfl (Nat.le_of_ble_eq_true rfl) (JC.mono h ?_)
  clear h
  rintro M2 _ ⟨b1, rfl, h⟩
  refine jw_st (st' := [.int (jb b1)]) rfl ?_
  exact jw_zret (pc := 15) dX12_isBy_15 rfl (jb_01 _) ⟨_, rfl, h⟩
set_option maxRecDepth 20000 in
theorem b_X12_isStorm {x : jX} {d : Nat} {M : jM} {P : jM → Bool → Prop}  
    (h : JC x jtbM mX12_spelled d [.int (115 : Int32), .int (116 : Int32), .int (111 : Int32), .int (114 : Int32), .int (109 : Int32), .int (0 : Int32)] M (jL fun M1 r1 => JC x jtbM mX12_isWord d [.ref (x.2.2.2 0), .long r1] M1 (jZ fun M2 b1 => P M2 b1))) :
    JC x jtbM mX12_isStorm (d + 1) [.ref (x.2.2.2 0)] M (jZ P) := by
  refine JC.of rfl (Nat.le_of_ble_eq_true rfl) ?_
  refine jw_ls (ls' := [(0, .ref (x.2.2.2 0))]) rfl ?_
  refine jw_aload_n (pc := 0) (j := 0) dX12_isStorm_0 rfl rfl ?_
  refine jw_bipush (pc := 1) (v := 115) dX12_isStorm_1 rfl ?_
  refine jw_bipush (pc := 3) (v := 116) dX12_isStorm_3 rfl ?_
  refine jw_bipush (pc := 5) (v := 111) dX12_isStorm_5 rfl ?_
  refine jw_bipush (pc := 7) (v := 114) dX12_isStorm_7 rfl ?_
  refine jw_bipush (pc := 9) (v := 109) dX12_isStorm_9 rfl ?_
  refine jw_iconst (pc := 11) (v := 0) dX12_isStorm_11 rfl ?_
  refine jw_callS (pc := 12) (m2 := mX12_spelled) (As := [.int (115 : Int32), .int (116 : Int32), .int (111 : Int32), .int (114 : Int32), .int (109 : Int32), .int (0 : Int32)]) (st := [.ref (x.2.2.2 0)]) dX12_isStorm_12 gm_X12_spelled ml_X12_157 rfl (Nat.le_of_ble_eq_true rfl) (JC.mono h ?_)
  clear h
  rintro M1 _ ⟨r1, rfl, h⟩
  refine jw_st (st' := [.long r1, .ref (x.2.2.2 0)]) rfl ?_
  refine jw_callV (pc := 15) (m2 := mX12_isWord) (As := [.long r1]) (st := []) dX12_isStorm_15 sM_0 (by decide) rfl rfl gm_X12_isWord ml_X12_161 rfl (Nat.le_of_ble_eq_true rfl) (JC.mono h ?_)
  clear h
  rintro M2 _ ⟨b1, rfl, h⟩
  refine jw_st (st' := [.int (jb b1)]) rfl ?_
  exact jw_zret (pc := 18) dX12_isStorm_18 rfl (jb_01 _) ⟨_, rfl, h⟩
set_option maxRecDepth 20000 in
theorem b_X12_isWhen {x : jX} {d : Nat} {M : jM} {P : jM → Bool → Prop}  
    (h : JC x jtbM mX12_spelled d [.int (119 : Int32), .int (104 : Int32), .int (101 : Int32), .int (110 : Int32), .int (0 : Int32), .int (0 : Int32)] M (jL fun M1 r1 => JC x jtbM mX12_isWord d [.ref (x.2.2.2 0), .long r1] M1 (jZ fun M2 b1 => P M2 b1))) :
    JC x jtbM mX12_isWhen (d + 1) [.ref (x.2.2.2 0)] M (jZ P) := by
  refine JC.of rfl (Nat.le_of_ble_eq_true rfl) ?_
  refine jw_ls (ls' := [(0, .ref (x.2.2.2 0))]) rfl ?_
  refine jw_aload_n (pc := 0) (j := 0) dX12_isWhen_0 rfl rfl ?_
  refine jw_bipush (pc := 1) (v := 119) dX12_isWhen_1 rfl ?_
  refine jw_bipush (pc := 3) (v := 104) dX12_isWhen_3 rfl ?_
  refine jw_bipush (pc := 5) (v := 101) dX12_isWhen_5 rfl ?_
  refine jw_bipush (pc := 7) (v := 110) dX12_isWhen_7 rfl ?_
  refine jw_iconst (pc := 9) (v := 0) dX12_isWhen_9 rfl ?_
  refine jw_iconst (pc := 10) (v := 0) dX12_isWhen_10 rfl ?_
  refine jw_callS (pc := 11) (m2 := mX12_spelled) (As := [.int (119 : Int32), .int (104 : Int32), .int (101 : Int32), .int (110 : Int32), .int (0 : Int32), .int (0 : Int32)]) (st := [.ref (x.2.2.2 0)]) dX12_isWhen_11 gm_X12_spelled ml_X12_157 rfl (Nat.le_of_ble_eq_true rfl) (JC.mono h ?_)
  clear h
  rintro M1 _ ⟨r1, rfl, h⟩
  refine jw_st (st' := [.long r1, .ref (x.2.2.2 0)]) rfl ?_
  refine jw_callV (pc := 14) (m2 := mX12_isWord) (As := [.long r1]) (st := []) dX12_isWhen_14 sM_0 (by decide) rfl rfl gm_X12_isWord ml_X12_161 rfl (Nat.le_of_ble_eq_true rfl) (JC.mono h ?_)
  clear h
  rintro M2 _ ⟨b1, rfl, h⟩
  refine jw_st (st' := [.int (jb b1)]) rfl ?_
  exact jw_zret (pc := 17) dX12_isWhen_17 rfl (jb_01 _) ⟨_, rfl, h⟩
set_option maxRecDepth 20000 in
theorem b_X12_isCellWord {x : jX} {d : Nat} {M : jM} {P : jM → Bool → Prop}  
    (h : JC x jtbM mX12_spelled d [.int (99 : Int32), .int (101 : Int32), .int (108 : Int32), .int (108 : Int32), .int (0 : Int32), .int (0 : Int32)] M (jL fun M1 r1 => JC x jtbM mX12_isWord d [.ref (x.2.2.2 0), .long r1] M1 (jZ fun M2 b1 => P M2 b1))) :
    JC x jtbM mX12_isCellWord (d + 1) [.ref (x.2.2.2 0)] M (jZ P) := by
  refine JC.of rfl (Nat.le_of_ble_eq_true rfl) ?_
  refine jw_ls (ls' := [(0, .ref (x.2.2.2 0))]) rfl ?_
  refine jw_aload_n (pc := 0) (j := 0) dX12_isCellWord_0 rfl rfl ?_
  refine jw_bipush (pc := 1) (v := 99) dX12_isCellWord_1 rfl ?_
  refine jw_bipush (pc := 3) (v := 101) dX12_isCellWord_3 rfl ?_
  refine jw_bipush (pc := 5) (v := 108) dX12_isCellWord_5 rfl ?_
  refine jw_bipush (pc := 7) (v := 108) dX12_isCellWord_7 rfl ?_
  refine jw_iconst (pc := 9) (v := 0) dX12_isCellWord_9 rfl ?_
  refine jw_iconst (pc := 10) (v := 0) dX12_isCellWord_10 rfl ?_
  refine jw_callS (pc := 11) (m2 := mX12_spelled) (As := [.int (99 : Int32), .int (101 : Int32), .int (108 : Int32), .int (108 : Int32), .int (0 : Int32), .int (0 : Int32)]) (st := [.ref (x.2.2.2 0)]) dX12_isCellWord_11 gm_X12_spelled ml_X12_157 rfl (Nat.le_of_ble_eq_true rfl) (JC.mono h ?_)
  clear h
  rintro M1 _ ⟨r1, rfl, h⟩
  refine jw_st (st' := [.long r1, .ref (x.2.2.2 0)]) rfl ?_
  refine jw_callV (pc := 14) (m2 := mX12_isWord) (As := [.long r1]) (st := []) dX12_isCellWord_14 sM_0 (by decide) rfl rfl gm_X12_isWord ml_X12_161 rfl (Nat.le_of_ble_eq_true rfl) (JC.mono h ?_)
  clear h
  rintro M2 _ ⟨b1, rfl, h⟩
  refine jw_st (st' := [.int (jb b1)]) rfl ?_
  exact jw_zret (pc := 17) dX12_isCellWord_17 rfl (jb_01 _) ⟨_, rfl, h⟩
set_option maxRecDepth 20000 in
theorem b_X12_isAt {x : jX} {d : Nat} {M : jM} {P : jM → Bool → Prop}  
    (h : JC x jtbM mX12_spelled d [.int (97 : Int32), .int (116 : Int32), .int (0 : Int32), .int (0 : Int32), .int (0 : Int32), .int (0 : Int32)] M (jL fun M1 r1 => JC x jtbM mX12_isWord d [.ref (x.2.2.2 0), .long r1] M1 (jZ fun M2 b1 => P M2 b1))) :
    JC x jtbM mX12_isAt (d + 1) [.ref (x.2.2.2 0)] M (jZ P) := by
  refine JC.of rfl (Nat.le_of_ble_eq_true rfl) ?_
  refine jw_ls (ls' := [(0, .ref (x.2.2.2 0))]) rfl ?_
  refine jw_aload_n (pc := 0) (j := 0) dX12_isAt_0 rfl rfl ?_
  refine jw_bipush (pc := 1) (v := 97) dX12_isAt_1 rfl ?_
  refine jw_bipush (pc := 3) (v := 116) dX12_isAt_3 rfl ?_
  refine jw_iconst (pc := 5) (v := 0) dX12_isAt_5 rfl ?_
  refine jw_iconst (pc := 6) (v := 0) dX12_isAt_6 rfl ?_
  refine jw_iconst (pc := 7) (v := 0) dX12_isAt_7 rfl ?_
  refine jw_iconst (pc := 8) (v := 0) dX12_isAt_8 rfl ?_
  refine jw_callS (pc := 9) (m2 := mX12_spelled) (As := [.int (97 : Int32), .int (116 : Int32), .int (0 : Int32), .int (0 : Int32), .int (0 : Int32), .int (0 : Int32)]) (st := [.ref (x.2.2.2 0)]) dX12_isAt_9 gm_X12_spelled ml_X12_157 rfl (Nat.le_of_ble_eq_true rfl) (JC.mono h ?_)
  clear h
  rintro M1 _ ⟨r1, rfl, h⟩
  refine jw_st (st' := [.long r1, .ref (x.2.2.2 0)]) rfl ?_
  refine jw_callV (pc := 12) (m2 := mX12_isWord) (As := [.long r1]) (st := []) dX12_isAt_12 sM_0 (by decide) rfl rfl gm_X12_isWord ml_X12_161 rfl (Nat.le_of_ble_eq_true rfl) (JC.mono h ?_)
  clear h
  rintro M2 _ ⟨b1, rfl, h⟩
  refine jw_st (st' := [.int (jb b1)]) rfl ?_
  exact jw_zret (pc := 15) dX12_isAt_15 rfl (jb_01 _) ⟨_, rfl, h⟩
set_option maxRecDepth 20000 in
theorem b_X12_isSame {x : jX} {d : Nat} {M : jM} {P : jM → Bool → Prop}  
    (h : JC x jtbM mX12_spelled d [.int (115 : Int32), .int (97 : Int32), .int (109 : Int32), .int (101 : Int32), .int (0 : Int32), .int (0 : Int32)] M (jL fun M1 r1 => JC x jtbM mX12_isWord d [.ref (x.2.2.2 0), .long r1] M1 (jZ fun M2 b1 => P M2 b1))) :
    JC x jtbM mX12_isSame (d + 1) [.ref (x.2.2.2 0)] M (jZ P) := by
  refine JC.of rfl (Nat.le_of_ble_eq_true rfl) ?_
  refine jw_ls (ls' := [(0, .ref (x.2.2.2 0))]) rfl ?_
  refine jw_aload_n (pc := 0) (j := 0) dX12_isSame_0 rfl rfl ?_
  refine jw_bipush (pc := 1) (v := 115) dX12_isSame_1 rfl ?_
  refine jw_bipush (pc := 3) (v := 97) dX12_isSame_3 rfl ?_
  refine jw_bipush (pc := 5) (v := 109) dX12_isSame_5 rfl ?_
  refine jw_bipush (pc := 7) (v := 101) dX12_isSame_7 rfl ?_
  refine jw_iconst (pc := 9) (v := 0) dX12_isSame_9 rfl ?_
  refine jw_iconst (pc := 10) (v := 0) dX12_isSame_10 rfl ?_
  refine jw_callS (pc := 11) (m2 := mX12_spelled) (As := [.int (115 : Int32), .int (97 : Int32), .int (109 : Int32), .int (101 : Int32), .int (0 : Int32), .int (0 : Int32)]) (st := [.ref (x.2.2.2 0)]) dX12_isSame_11 gm_X12_spelled ml_X12_157 rfl (Nat.le_of_ble_eq_true rfl) (JC.mono h ?_)
  clear h
  rintro M1 _ ⟨r1, rfl, h⟩
  refine jw_st (st' := [.long r1, .ref (x.2.2.2 0)]) rfl ?_
  refine jw_callV (pc := 14) (m2 := mX12_isWord) (As := [.long r1]) (st := []) dX12_isSame_14 sM_0 (by decide) rfl rfl gm_X12_isWord ml_X12_161 rfl (Nat.le_of_ble_eq_true rfl) (JC.mono h ?_)
  clear h
  rintro M2 _ ⟨b1, rfl, h⟩
  refine jw_st (st' := [.int (jb b1)]) rfl ?_
  exact jw_zret (pc := 17) dX12_isSame_17 rfl (jb_01 _) ⟨_, rfl, h⟩
set_option maxRecDepth 20000 in
theorem b_X12_isStone {x : jX} {d : Nat} {M : jM} {P : jM → Bool → Prop}  
    (h : JC x jtbM mX12_spelled d [.int (115 : Int32), .int (116 : Int32), .int (111 : Int32), .int (110 : Int32), .int (101 : Int32), .int (0 : Int32)] M (jL fun M1 r1 => JC x jtbM mX12_isWord d [.ref (x.2.2.2 0), .long r1] M1 (jZ fun M2 b1 => P M2 b1))) :
    JC x jtbM mX12_isStone (d + 1) [.ref (x.2.2.2 0)] M (jZ P) := by
  refine JC.of rfl (Nat.le_of_ble_eq_true rfl) ?_
  refine jw_ls (ls' := [(0, .ref (x.2.2.2 0))]) rfl ?_
  refine jw_aload_n (pc := 0) (j := 0) dX12_isStone_0 rfl rfl ?_
  refine jw_bipush (pc := 1) (v := 115) dX12_isStone_1 rfl ?_
  refine jw_bipush (pc := 3) (v := 116) dX12_isStone_3 rfl ?_
  refine jw_bipush (pc := 5) (v := 111) dX12_isStone_5 rfl ?_
  refine jw_bipush (pc := 7) (v := 110) dX12_isStone_7 rfl ?_
  refine jw_bipush (pc := 9) (v := 101) dX12_isStone_9 rfl ?_
  refine jw_iconst (pc := 11) (v := 0) dX12_isStone_11 rfl ?_
  refine jw_callS (pc := 12) (m2 := mX12_spelled) (As := [.int (115 : Int32), .int (116 : Int32), .int (111 : Int32), .int (110 : Int32), .int (101 : Int32), .int (0 : Int32)]) (st := [.ref (x.2.2.2 0)]) dX12_isStone_12 gm_X12_spelled ml_X12_157 rfl (Nat.le_of_ble_eq_true rfl) (JC.mono h ?_)
  clear h
  rintro M1 _ ⟨r1, rfl, h⟩
  refine jw_st (st' := [.long r1, .ref (x.2.2.2 0)]) rfl ?_
  refine jw_callV (pc := 15) (m2 := mX12_isWord) (As := [.long r1]) (st := []) dX12_isStone_15 sM_0 (by decide) rfl rfl gm_X12_isWord ml_X12_161 rfl (Nat.le_of_ble_eq_true rfl) (JC.mono h ?_)
  clear h
  rintro M2 _ ⟨b1, rfl, h⟩
  refine jw_st (st' := [.int (jb b1)]) rfl ?_
  exact jw_zret (pc := 18) dX12_isStone_18 rfl (jb_01 _) ⟨_, rfl, h⟩
set_option maxRecDepth 20000 in
theorem b_X12_isLoop {x : jX} {d : Nat} {M : jM} {P : jM → Bool → Prop}  
    (h : JC x jtbM mX12_spelled d [.int (108 : Int32), .int (111 : Int32), .int (111 : Int32), .int (112 : Int32), .int (0 : Int32), .int (0 : Int32)] M (jL fun M1 r1 => JC x jtbM mX12_isWord d [.ref (x.2.2.2 0), .long r1] M1 (jZ fun M2 b1 => P M2 b1))) :
    JC x jtbM mX12_isLoop (d + 1) [.ref (x.2.2.2 0)] M (jZ P) := by
  refine JC.of rfl (Nat.le_of_ble_eq_true rfl) ?_
  refine jw_ls (ls' := [(0, .ref (x.2.2.2 0))]) rfl ?_
  refine jw_aload_n (pc := 0) (j := 0) dX12_isLoop_0 rfl rfl ?_
  refine jw_bipush (pc := 1) (v := 108) dX12_isLoop_1 rfl ?_
  refine jw_bipush (pc := 3) (v := 111) dX12_isLoop_3 rfl ?_
  refine jw_bipush (pc := 5) (v := 111) dX12_isLoop_5 rfl ?_
  refine jw_bipush (pc := 7) (v := 112) dX12_isLoop_7 rfl ?_
  refine jw_iconst (pc := 9) (v := 0) dX12_isLoop_9 rfl ?_
  refine jw_iconst (pc := 10) (v := 0) dX12_isLoop_10 rfl ?_
  refine jw_callS (pc := 11) (m2 := mX12_spelled) (As := [.int (108 : Int32), .int (111 : Int32), .int (111 : Int32), .int (112 : Int32), .int (0 : Int32), .int (0 : Int32)]) (st := [.ref (x.2.2.2 0)]) dX12_isLoop_11 gm_X12_spelled ml_X12_157 rfl (Nat.le_of_ble_eq_true rfl) (JC.mono h ?_)
  clear h
  rintro M1 _ ⟨r1, rfl, h⟩
  refine jw_st (st' := [.long r1, .ref (x.2.2.2 0)]) rfl ?_
  refine jw_callV (pc := 14) (m2 := mX12_isWord) (As := [.long r1]) (st := []) dX12_isLoop_14 sM_0 (by decide) rfl rfl gm_X12_isWord ml_X12_161 rfl (Nat.le_of_ble_eq_true rfl) (JC.mono h ?_)
  clear h
  rintro M2 _ ⟨b1, rfl, h⟩
  refine jw_st (st' := [.int (jb b1)]) rfl ?_
  exact jw_zret (pc := 17) dX12_isLoop_17 rfl (jb_01 _) ⟨_, rfl, h⟩
set_option maxRecDepth 20000 in
theorem b_X12_isEnd {x : jX} {d : Nat} {M : jM} {P : jM → Bool → Prop}  
    (h : JC x jtbM mX12_spelled d [.int (101 : Int32), .int (110 : Int32), .int (100 : Int32), .int (0 : Int32), .int (0 : Int32), .int (0 : Int32)] M (jL fun M1 r1 => JC x jtbM mX12_isWord d [.ref (x.2.2.2 0), .long r1] M1 (jZ fun M2 b1 => P M2 b1))) :
    JC x jtbM mX12_isEnd (d + 1) [.ref (x.2.2.2 0)] M (jZ P) := by
  refine JC.of rfl (Nat.le_of_ble_eq_true rfl) ?_
  refine jw_ls (ls' := [(0, .ref (x.2.2.2 0))]) rfl ?_
  refine jw_aload_n (pc := 0) (j := 0) dX12_isEnd_0 rfl rfl ?_
  refine jw_bipush (pc := 1) (v := 101) dX12_isEnd_1 rfl ?_
  refine jw_bipush (pc := 3) (v := 110) dX12_isEnd_3 rfl ?_
  refine jw_bipush (pc := 5) (v := 100) dX12_isEnd_5 rfl ?_
  refine jw_iconst (pc := 7) (v := 0) dX12_isEnd_7 rfl ?_
  refine jw_iconst (pc := 8) (v := 0) dX12_isEnd_8 rfl ?_
  refine jw_iconst (pc := 9) (v := 0) dX12_isEnd_9 rfl ?_
  refine jw_callS (pc := 10) (m2 := mX12_spelled) (As := [.int (101 : Int32), .int (110 : Int32), .int (100 : Int32), .int (0 : Int32), .int (0 : Int32), .int (0 : Int32)]) (st := [.ref (x.2.2.2 0)]) dX12_isEnd_10 gm_X12_spelled ml_X12_157 rfl (Nat.le_of_ble_eq_true rfl) (JC.mono h ?_)
  clear h
  rintro M1 _ ⟨r1, rfl, h⟩
  refine jw_st (st' := [.long r1, .ref (x.2.2.2 0)]) rfl ?_
  refine jw_callV (pc := 13) (m2 := mX12_isWord) (As := [.long r1]) (st := []) dX12_isEnd_13 sM_0 (by decide) rfl rfl gm_X12_isWord ml_X12_161 rfl (Nat.le_of_ble_eq_true rfl) (JC.mono h ?_)
  clear h
  rintro M2 _ ⟨b1, rfl, h⟩
  refine jw_st (st' := [.int (jb b1)]) rfl ?_
  exact jw_zret (pc := 16) dX12_isEnd_16 rfl (jb_01 _) ⟨_, rfl, h⟩
set_option maxRecDepth 20000 in
theorem b_X12_isStop {x : jX} {d : Nat} {M : jM} {P : jM → Bool → Prop}  
    (h : JC x jtbM mX12_spelled d [.int (115 : Int32), .int (116 : Int32), .int (111 : Int32), .int (112 : Int32), .int (0 : Int32), .int (0 : Int32)] M (jL fun M1 r1 => JC x jtbM mX12_isWord d [.ref (x.2.2.2 0), .long r1] M1 (jZ fun M2 b1 => P M2 b1))) :
    JC x jtbM mX12_isStop (d + 1) [.ref (x.2.2.2 0)] M (jZ P) := by
  refine JC.of rfl (Nat.le_of_ble_eq_true rfl) ?_
  refine jw_ls (ls' := [(0, .ref (x.2.2.2 0))]) rfl ?_
  refine jw_aload_n (pc := 0) (j := 0) dX12_isStop_0 rfl rfl ?_
  refine jw_bipush (pc := 1) (v := 115) dX12_isStop_1 rfl ?_
  refine jw_bipush (pc := 3) (v := 116) dX12_isStop_3 rfl ?_
  refine jw_bipush (pc := 5) (v := 111) dX12_isStop_5 rfl ?_
  refine jw_bipush (pc := 7) (v := 112) dX12_isStop_7 rfl ?_
  refine jw_iconst (pc := 9) (v := 0) dX12_isStop_9 rfl ?_
  refine jw_iconst (pc := 10) (v := 0) dX12_isStop_10 rfl ?_
  refine jw_callS (pc := 11) (m2 := mX12_spelled) (As := [.int (115 : Int32), .int (116 : Int32), .int (111 : Int32), .int (112 : Int32), .int (0 : Int32), .int (0 : Int32)]) (st := [.ref (x.2.2.2 0)]) dX12_isStop_11 gm_X12_spelled ml_X12_157 rfl (Nat.le_of_ble_eq_true rfl) (JC.mono h ?_)
  clear h
  rintro M1 _ ⟨r1, rfl, h⟩
  refine jw_st (st' := [.long r1, .ref (x.2.2.2 0)]) rfl ?_
  refine jw_callV (pc := 14) (m2 := mX12_isWord) (As := [.long r1]) (st := []) dX12_isStop_14 sM_0 (by decide) rfl rfl gm_X12_isWord ml_X12_161 rfl (Nat.le_of_ble_eq_true rfl) (JC.mono h ?_)
  clear h
  rintro M2 _ ⟨b1, rfl, h⟩
  refine jw_st (st' := [.int (jb b1)]) rfl ?_
  exact jw_zret (pc := 17) dX12_isStop_17 rfl (jb_01 _) ⟨_, rfl, h⟩
set_option maxRecDepth 20000 in
theorem b_X12_isKept {x : jX} {d : Nat} {M : jM} {P : jM → Bool → Prop}  
    (h : JC x jtbM mX12_sideWord d [.ref (x.2.2.2 0)] M (jI fun M1 r1 => (0 ≤ r1 → P M1 true) ∧ (¬ 0 ≤ r1 → JC x jtbM mX12_isSize d [.ref (x.2.2.2 0)] M1 (jZ fun M2 b1 => (b1 = true → P M2 true) ∧ (b1 = false → JC x jtbM mX12_isMost d [.ref (x.2.2.2 0)] M2 (jZ fun M3 b2 => (b2 = true → P M3 true) ∧ (b2 = false → JC x jtbM mX12_isLeast d [.ref (x.2.2.2 0)] M3 (jZ fun M4 b3 => (b3 = true → P M4 true) ∧ (b3 = false → JC x jtbM mX12_isPrice d [.ref (x.2.2.2 0)] M4 (jZ fun M5 b4 => (b4 = true → P M5 true) ∧ (b4 = false → JC x jtbM mX12_isVillageWord d [.ref (x.2.2.2 0)] M5 (jZ fun M6 b5 => (b5 = true → P M6 true) ∧ (b5 = false → JC x jtbM mX12_isSees d [.ref (x.2.2.2 0)] M6 (jZ fun M7 b6 => (b6 = true → P M7 true) ∧ (b6 = false → JC x jtbM mX12_isRaise d [.ref (x.2.2.2 0)] M7 (jZ fun M8 b7 => (b7 = true → P M8 true) ∧ (b7 = false → JC x jtbM mX12_isLower d [.ref (x.2.2.2 0)] M8 (jZ fun M9 b8 => (b8 = true → P M9 true) ∧ (b8 = false → JC x jtbM mX12_isBy d [.ref (x.2.2.2 0)] M9 (jZ fun M10 b9 => (b9 = false → JC x jtbM mX12_isStorm d [.ref (x.2.2.2 0)] M10 (jZ fun M11 b10 => (b10 = true → P M11 true) ∧ (b10 = false → JC x jtbM mX12_isWhen d [.ref (x.2.2.2 0)] M11 (jZ fun M12 b11 => (b11 = true → P M12 true) ∧ (b11 = false → JC x jtbM mX12_isCellWord d [.ref (x.2.2.2 0)] M12 (jZ fun M13 b12 => (b12 = true → P M13 true) ∧ (b12 = false → JC x jtbM mX12_isAt d [.ref (x.2.2.2 0)] M13 (jZ fun M14 b13 => (b13 = true → P M14 true) ∧ (b13 = false → JC x jtbM mX12_isSame d [.ref (x.2.2.2 0)] M14 (jZ fun M15 b14 => (b14 = true → P M15 true) ∧ (b14 = false → JC x jtbM mX12_isStone d [.ref (x.2.2.2 0)] M15 (jZ fun M16 b15 => (b15 = true → P M16 true) ∧ (b15 = false → JC x jtbM mX12_isLoop d [.ref (x.2.2.2 0)] M16 (jZ fun M17 b16 => (b16 = true → P M17 true) ∧ (b16 = false → JC x jtbM mX12_isEnd d [.ref (x.2.2.2 0)] M17 (jZ fun M18 b17 => (b17 = true → P M18 true) ∧ (b17 = false → JC x jtbM mX12_isStop d [.ref (x.2.2.2 0)] M18 (jZ fun M19 b18 => (b18 = false → P M19 false) ∧ (b18 = true → P M19 true))))))))))))))))))) ∧ (b9 = true → P M10 true))))))))))))))))))))) :
    JC x jtbM mX12_isKept (d + 1) [.ref (x.2.2.2 0)] M (jZ P) := by
  refine JC.of rfl (Nat.le_of_ble_eq_true rfl) ?_
  refine jw_ls (ls' := [(0, .ref (x.2.2.2 0))]) rfl ?_
  refine jw_aload_n (pc := 0) (j := 0) dX12_isKept_0 rfl rfl ?_
  refine jw_callV (pc := 1) (m2 := mX12_sideWord) (As := []) (st := []) dX12_isKept_1 sM_0 (by decide) rfl rfl gm_X12_sideWord ml_X12_167 rfl (Nat.le_of_ble_eq_true rfl) (JC.mono h ?_)
  clear h
  rintro M1 _ ⟨r1, rfl, h⟩
  refine jw_st (st' := [.int r1]) rfl ?_
  refine jw_if_ge (pc := 4) (tgt := 70) dX12_isKept_4 (by decide) (fun c => ?_) (fun c => ?_)
  · replace h := h.1 c
    refine jw_iconst (pc := 70) (v := 1) dX12_isKept_70 rfl ?_
    exact jw_zret (pc := 71) dX12_isKept_71 rfl (Or.inr rfl) ⟨true, rfl, h⟩
  · replace h := h.2 c
    refine jw_aload_n (pc := 7) (j := 0) dX12_isKept_7 rfl rfl ?_
    refine jw_callV (pc := 8) (m2 := mX12_isSize) (As := []) (st := []) dX12_isKept_8 sM_0 (by decide) rfl rfl gm_X12_isSize ml_X12_171 rfl (Nat.le_of_ble_eq_true rfl) (JC.mono h ?_)
    clear h
    rintro M2 _ ⟨b1, rfl, h⟩
    refine jw_st (st' := [.int (jb b1)]) rfl ?_
    refine jw_if_ne (pc := 11) (tgt := 70) dX12_isKept_11 (by decide) (fun c => ?_) (fun c => ?_)
    · replace h := h.1 (jb_ne c)
      refine jw_iconst (pc := 70) (v := 1) dX12_isKept_70 rfl ?_
      exact jw_zret (pc := 71) dX12_isKept_71 rfl (Or.inr rfl) ⟨true, rfl, h⟩
    · replace h := h.2 ((jb_0 _).mp c)
      refine jw_aload_n (pc := 14) (j := 0) dX12_isKept_14 rfl rfl ?_
      refine jw_callV (pc := 15) (m2 := mX12_isMost) (As := []) (st := []) dX12_isKept_15 sM_0 (by decide) rfl rfl gm_X12_isMost ml_X12_175 rfl (Nat.le_of_ble_eq_true rfl) (JC.mono h ?_)
      clear h
      rintro M3 _ ⟨b2, rfl, h⟩
      refine jw_st (st' := [.int (jb b2)]) rfl ?_
      refine jw_if_ne (pc := 18) (tgt := 70) dX12_isKept_18 (by decide) (fun c => ?_) (fun c => ?_)
      · replace h := h.1 (jb_ne c)
        refine jw_iconst (pc := 70) (v := 1) dX12_isKept_70 rfl ?_
        exact jw_zret (pc := 71) dX12_isKept_71 rfl (Or.inr rfl) ⟨true, rfl, h⟩
      · replace h := h.2 ((jb_0 _).mp c)
        refine jw_aload_n (pc := 21) (j := 0) dX12_isKept_21 rfl rfl ?_
        refine jw_callV (pc := 22) (m2 := mX12_isLeast) (As := []) (st := []) dX12_isKept_22 sM_0 (by decide) rfl rfl gm_X12_isLeast ml_X12_178 rfl (Nat.le_of_ble_eq_true rfl) (JC.mono h ?_)
        clear h
        rintro M4 _ ⟨b3, rfl, h⟩
        refine jw_st (st' := [.int (jb b3)]) rfl ?_
        refine jw_if_ne (pc := 25) (tgt := 70) dX12_isKept_25 (by decide) (fun c => ?_) (fun c => ?_)
        · replace h := h.1 (jb_ne c)
          refine jw_iconst (pc := 70) (v := 1) dX12_isKept_70 rfl ?_
          exact jw_zret (pc := 71) dX12_isKept_71 rfl (Or.inr rfl) ⟨true, rfl, h⟩
        · replace h := h.2 ((jb_0 _).mp c)
          refine jw_aload_n (pc := 28) (j := 0) dX12_isKept_28 rfl rfl ?_
          refine jw_callV (pc := 29) (m2 := mX12_isPrice) (As := []) (st := []) dX12_isKept_29 sM_0 (by decide) rfl rfl gm_X12_isPrice ml_X12_181 rfl (Nat.le_of_ble_eq_true rfl) (JC.mono h ?_)
          clear h
          rintro M5 _ ⟨b4, rfl, h⟩
          refine jw_st (st' := [.int (jb b4)]) rfl ?_
          refine jw_if_ne (pc := 32) (tgt := 70) dX12_isKept_32 (by decide) (fun c => ?_) (fun c => ?_)
          · replace h := h.1 (jb_ne c)
            refine jw_iconst (pc := 70) (v := 1) dX12_isKept_70 rfl ?_
            exact jw_zret (pc := 71) dX12_isKept_71 rfl (Or.inr rfl) ⟨true, rfl, h⟩
          · replace h := h.2 ((jb_0 _).mp c)
            refine jw_aload_n (pc := 35) (j := 0) dX12_isKept_35 rfl rfl ?_
            refine jw_callV (pc := 36) (m2 := mX12_isVillageWord) (As := []) (st := []) dX12_isKept_36 sM_0 (by decide) rfl rfl gm_X12_isVillageWord ml_X12_184 rfl (Nat.le_of_ble_eq_true rfl) (JC.mono h ?_)
            clear h
            rintro M6 _ ⟨b5, rfl, h⟩
            refine jw_st (st' := [.int (jb b5)]) rfl ?_
            refine jw_if_ne (pc := 39) (tgt := 70) dX12_isKept_39 (by decide) (fun c => ?_) (fun c => ?_)
            · replace h := h.1 (jb_ne c)
              refine jw_iconst (pc := 70) (v := 1) dX12_isKept_70 rfl ?_
              exact jw_zret (pc := 71) dX12_isKept_71 rfl (Or.inr rfl) ⟨true, rfl, h⟩
            · replace h := h.2 ((jb_0 _).mp c)
              refine jw_aload_n (pc := 42) (j := 0) dX12_isKept_42 rfl rfl ?_
              refine jw_callV (pc := 43) (m2 := mX12_isSees) (As := []) (st := []) dX12_isKept_43 sM_0 (by decide) rfl rfl gm_X12_isSees ml_X12_187 rfl (Nat.le_of_ble_eq_true rfl) (JC.mono h ?_)
              clear h
              rintro M7 _ ⟨b6, rfl, h⟩
              refine jw_st (st' := [.int (jb b6)]) rfl ?_
              refine jw_if_ne (pc := 46) (tgt := 70) dX12_isKept_46 (by decide) (fun c => ?_) (fun c => ?_)
              · replace h := h.1 (jb_ne c)
                refine jw_iconst (pc := 70) (v := 1) dX12_isKept_70 rfl ?_
                exact jw_zret (pc := 71) dX12_isKept_71 rfl (Or.inr rfl) ⟨true, rfl, h⟩
              · replace h := h.2 ((jb_0 _).mp c)
                refine jw_aload_n (pc := 49) (j := 0) dX12_isKept_49 rfl rfl ?_
                refine jw_callV (pc := 50) (m2 := mX12_isRaise) (As := []) (st := []) dX12_isKept_50 sM_0 (by decide) rfl rfl gm_X12_isRaise ml_X12_190 rfl (Nat.le_of_ble_eq_true rfl) (JC.mono h ?_)
                clear h
                rintro M8 _ ⟨b7, rfl, h⟩
                refine jw_st (st' := [.int (jb b7)]) rfl ?_
                refine jw_if_ne (pc := 53) (tgt := 70) dX12_isKept_53 (by decide) (fun c => ?_) (fun c => ?_)
                · replace h := h.1 (jb_ne c)
                  refine jw_iconst (pc := 70) (v := 1) dX12_isKept_70 rfl ?_
                  exact jw_zret (pc := 71) dX12_isKept_71 rfl (Or.inr rfl) ⟨true, rfl, h⟩
                · replace h := h.2 ((jb_0 _).mp c)
                  refine jw_aload_n (pc := 56) (j := 0) dX12_isKept_56 rfl rfl ?_
                  refine jw_callV (pc := 57) (m2 := mX12_isLower) (As := []) (st := []) dX12_isKept_57 sM_0 (by decide) rfl rfl gm_X12_isLower ml_X12_193 rfl (Nat.le_of_ble_eq_true rfl) (JC.mono h ?_)
                  clear h
                  rintro M9 _ ⟨b8, rfl, h⟩
                  refine jw_st (st' := [.int (jb b8)]) rfl ?_
                  refine jw_if_ne (pc := 60) (tgt := 70) dX12_isKept_60 (by decide) (fun c => ?_) (fun c => ?_)
                  · replace h := h.1 (jb_ne c)
                    refine jw_iconst (pc := 70) (v := 1) dX12_isKept_70 rfl ?_
                    exact jw_zret (pc := 71) dX12_isKept_71 rfl (Or.inr rfl) ⟨true, rfl, h⟩
                  · replace h := h.2 ((jb_0 _).mp c)
                    refine jw_aload_n (pc := 63) (j := 0) dX12_isKept_63 rfl rfl ?_
                    refine jw_callV (pc := 64) (m2 := mX12_isBy) (As := []) (st := []) dX12_isKept_64 sM_0 (by decide) rfl rfl gm_X12_isBy ml_X12_196 rfl (Nat.le_of_ble_eq_true rfl) (JC.mono h ?_)
                    clear h
                    rintro M10 _ ⟨b9, rfl, h⟩
                    refine jw_st (st' := [.int (jb b9)]) rfl ?_
                    refine jw_if_eq (pc := 67) (tgt := 72) dX12_isKept_67 (by decide) (fun c => ?_) (fun c => ?_)
                    · replace h := h.1 ((jb_0 _).mp c)
                      refine jw_aload_n (pc := 72) (j := 0) dX12_isKept_72 rfl rfl ?_
                      refine jw_callV (pc := 73) (m2 := mX12_isStorm) (As := []) (st := []) dX12_isKept_73 sM_0 (by decide) rfl rfl gm_X12_isStorm ml_X12_199 rfl (Nat.le_of_ble_eq_true rfl) (JC.mono h ?_)
                      clear h
                      rintro M11 _ ⟨b10, rfl, h⟩
                      refine jw_st (st' := [.int (jb b10)]) rfl ?_
                      refine jw_if_ne (pc := 76) (tgt := 135) dX12_isKept_76 (by decide) (fun c => ?_) (fun c => ?_)
                      · replace h := h.1 (jb_ne c)
                        refine jw_iconst (pc := 135) (v := 1) dX12_isKept_135 rfl ?_
                        refine jw_goto (pc := 136) (tgt := 140) dX12_isKept_136 (by decide) ?_
                        exact jw_zret (pc := 140) dX12_isKept_140 rfl (Or.inr rfl) ⟨true, rfl, h⟩
                      · replace h := h.2 ((jb_0 _).mp c)
                        refine jw_aload_n (pc := 79) (j := 0) dX12_isKept_79 rfl rfl ?_
                        refine jw_callV (pc := 80) (m2 := mX12_isWhen) (As := []) (st := []) dX12_isKept_80 sM_0 (by decide) rfl rfl gm_X12_isWhen ml_X12_202 rfl (Nat.le_of_ble_eq_true rfl) (JC.mono h ?_)
                        clear h
                        rintro M12 _ ⟨b11, rfl, h⟩
                        refine jw_st (st' := [.int (jb b11)]) rfl ?_
                        refine jw_if_ne (pc := 83) (tgt := 135) dX12_isKept_83 (by decide) (fun c => ?_) (fun c => ?_)
                        · replace h := h.1 (jb_ne c)
                          refine jw_iconst (pc := 135) (v := 1) dX12_isKept_135 rfl ?_
                          refine jw_goto (pc := 136) (tgt := 140) dX12_isKept_136 (by decide) ?_
                          exact jw_zret (pc := 140) dX12_isKept_140 rfl (Or.inr rfl) ⟨true, rfl, h⟩
                        · replace h := h.2 ((jb_0 _).mp c)
                          refine jw_aload_n (pc := 86) (j := 0) dX12_isKept_86 rfl rfl ?_
                          refine jw_callV (pc := 87) (m2 := mX12_isCellWord) (As := []) (st := []) dX12_isKept_87 sM_0 (by decide) rfl rfl gm_X12_isCellWord ml_X12_205 rfl (Nat.le_of_ble_eq_true rfl) (JC.mono h ?_)
                          clear h
                          rintro M13 _ ⟨b12, rfl, h⟩
                          refine jw_st (st' := [.int (jb b12)]) rfl ?_
                          refine jw_if_ne (pc := 90) (tgt := 135) dX12_isKept_90 (by decide) (fun c => ?_) (fun c => ?_)
                          · replace h := h.1 (jb_ne c)
                            refine jw_iconst (pc := 135) (v := 1) dX12_isKept_135 rfl ?_
                            refine jw_goto (pc := 136) (tgt := 140) dX12_isKept_136 (by decide) ?_
                            exact jw_zret (pc := 140) dX12_isKept_140 rfl (Or.inr rfl) ⟨true, rfl, h⟩
                          · replace h := h.2 ((jb_0 _).mp c)
                            refine jw_aload_n (pc := 93) (j := 0) dX12_isKept_93 rfl rfl ?_
                            refine jw_callV (pc := 94) (m2 := mX12_isAt) (As := []) (st := []) dX12_isKept_94 sM_0 (by decide) rfl rfl gm_X12_isAt ml_X12_208 rfl (Nat.le_of_ble_eq_true rfl) (JC.mono h ?_)
                            clear h
                            rintro M14 _ ⟨b13, rfl, h⟩
                            refine jw_st (st' := [.int (jb b13)]) rfl ?_
                            refine jw_if_ne (pc := 97) (tgt := 135) dX12_isKept_97 (by decide) (fun c => ?_) (fun c => ?_)
                            · replace h := h.1 (jb_ne c)
                              refine jw_iconst (pc := 135) (v := 1) dX12_isKept_135 rfl ?_
                              refine jw_goto (pc := 136) (tgt := 140) dX12_isKept_136 (by decide) ?_
                              exact jw_zret (pc := 140) dX12_isKept_140 rfl (Or.inr rfl) ⟨true, rfl, h⟩
                            · replace h := h.2 ((jb_0 _).mp c)
                              refine jw_aload_n (pc := 100) (j := 0) dX12_isKept_100 rfl rfl ?_
                              refine jw_callV (pc := 101) (m2 := mX12_isSame) (As := []) (st := []) dX12_isKept_101 sM_0 (by decide) rfl rfl gm_X12_isSame ml_X12_211 rfl (Nat.le_of_ble_eq_true rfl) (JC.mono h ?_)
                              clear h
                              rintro M15 _ ⟨b14, rfl, h⟩
                              refine jw_st (st' := [.int (jb b14)]) rfl ?_
                              refine jw_if_ne (pc := 104) (tgt := 135) dX12_isKept_104 (by decide) (fun c => ?_) (fun c => ?_)
                              · replace h := h.1 (jb_ne c)
                                refine jw_iconst (pc := 135) (v := 1) dX12_isKept_135 rfl ?_
                                refine jw_goto (pc := 136) (tgt := 140) dX12_isKept_136 (by decide) ?_
                                exact jw_zret (pc := 140) dX12_isKept_140 rfl (Or.inr rfl) ⟨true, rfl, h⟩
                              · replace h := h.2 ((jb_0 _).mp c)
                                refine jw_aload_n (pc := 107) (j := 0) dX12_isKept_107 rfl rfl ?_
                                refine jw_callV (pc := 108) (m2 := mX12_isStone) (As := []) (st := []) dX12_isKept_108 sM_0 (by decide) rfl rfl gm_X12_isStone ml_X12_214 rfl (Nat.le_of_ble_eq_true rfl) (JC.mono h ?_)
                                clear h
                                rintro M16 _ ⟨b15, rfl, h⟩
                                refine jw_st (st' := [.int (jb b15)]) rfl ?_
                                refine jw_if_ne (pc := 111) (tgt := 135) dX12_isKept_111 (by decide) (fun c => ?_) (fun c => ?_)
                                · replace h := h.1 (jb_ne c)
                                  refine jw_iconst (pc := 135) (v := 1) dX12_isKept_135 rfl ?_
                                  refine jw_goto (pc := 136) (tgt := 140) dX12_isKept_136 (by decide) ?_
                                  exact jw_zret (pc := 140) dX12_isKept_140 rfl (Or.inr rfl) ⟨true, rfl, h⟩
                                · replace h := h.2 ((jb_0 _).mp c)
                                  refine jw_aload_n (pc := 114) (j := 0) dX12_isKept_114 rfl rfl ?_
                                  refine jw_callV (pc := 115) (m2 := mX12_isLoop) (As := []) (st := []) dX12_isKept_115 sM_0 (by decide) rfl rfl gm_X12_isLoop ml_X12_217 rfl (Nat.le_of_ble_eq_true rfl) (JC.mono h ?_)
                                  clear h
                                  rintro M17 _ ⟨b16, rfl, h⟩
                                  refine jw_st (st' := [.int (jb b16)]) rfl ?_
                                  refine jw_if_ne (pc := 118) (tgt := 135) dX12_isKept_118 (by decide) (fun c => ?_) (fun c => ?_)
                                  · replace h := h.1 (jb_ne c)
                                    refine jw_iconst (pc := 135) (v := 1) dX12_isKept_135 rfl ?_
                                    refine jw_goto (pc := 136) (tgt := 140) dX12_isKept_136 (by decide) ?_
                                    exact jw_zret (pc := 140) dX12_isKept_140 rfl (Or.inr rfl) ⟨true, rfl, h⟩
                                  · replace h := h.2 ((jb_0 _).mp c)
                                    refine jw_aload_n (pc := 121) (j := 0) dX12_isKept_121 rfl rfl ?_
                                    refine jw_callV (pc := 122) (m2 := mX12_isEnd) (As := []) (st := []) dX12_isKept_122 sM_0 (by decide) rfl rfl gm_X12_isEnd ml_X12_220 rfl (Nat.le_of_ble_eq_true rfl) (JC.mono h ?_)
                                    clear h
                                    rintro M18 _ ⟨b17, rfl, h⟩
                                    refine jw_st (st' := [.int (jb b17)]) rfl ?_
                                    refine jw_if_ne (pc := 125) (tgt := 135) dX12_isKept_125 (by decide) (fun c => ?_) (fun c => ?_)
                                    · replace h := h.1 (jb_ne c)
                                      refine jw_iconst (pc := 135) (v := 1) dX12_isKept_135 rfl ?_
                                      refine jw_goto (pc := 136) (tgt := 140) dX12_isKept_136 (by decide) ?_
                                      exact jw_zret (pc := 140) dX12_isKept_140 rfl (Or.inr rfl) ⟨true, rfl, h⟩
                                    · replace h := h.2 ((jb_0 _).mp c)
                                      refine jw_aload_n (pc := 128) (j := 0) dX12_isKept_128 rfl rfl ?_
                                      refine jw_callV (pc := 129) (m2 := mX12_isStop) (As := []) (st := []) dX12_isKept_129 sM_0 (by decide) rfl rfl gm_X12_isStop ml_X12_223 rfl (Nat.le_of_ble_eq_true rfl) (JC.mono h ?_)
                                      clear h
                                      rintro M19 _ ⟨b18, rfl, h⟩
                                      refine jw_st (st' := [.int (jb b18)]) rfl ?_
                                      refine jw_if_eq (pc := 132) (tgt := 139) dX12_isKept_132 (by decide) (fun c => ?_) (fun c => ?_)
                                      · replace h := h.1 ((jb_0 _).mp c)
                                        refine jw_iconst (pc := 139) (v := 0) dX12_isKept_139 rfl ?_
                                        exact jw_zret (pc := 140) dX12_isKept_140 rfl (Or.inl rfl) ⟨false, rfl, h⟩
                                      · replace h := h.2 (jb_ne c)
                                        refine jw_iconst (pc := 135) (v := 1) dX12_isKept_135 rfl ?_
                                        refine jw_goto (pc := 136) (tgt := 140) dX12_isKept_136 (by decide) ?_
                                        exact jw_zret (pc := 140) dX12_isKept_140 rfl (Or.inr rfl) ⟨true, rfl, h⟩
                    · replace h := h.2 (jb_ne c)
                      refine jw_iconst (pc := 70) (v := 1) dX12_isKept_70 rfl ?_
                      exact jw_zret (pc := 71) dX12_isKept_71 rfl (Or.inr rfl) ⟨true, rfl, h⟩
set_option maxRecDepth 20000 in
theorem b_X12_isName {x : jX} {d : Nat} {M : jM} {P : jM → Bool → Prop}  
    (h : (¬ (M.1 0 14) = (1 : Int32) → P M false) ∧ ((M.1 0 14) = (1 : Int32) → ((8 : Int32) < (M.1 0 18) → P M false) ∧ (¬ (8 : Int32) < (M.1 0 18) → JC x jtbM mX12_isKept d [.ref (x.2.2.2 0)] M (jZ fun M1 b1 => (b1 = true → P M1 false) ∧ (b1 = false → P M1 true))))) :
    JC x jtbM mX12_isName (d + 1) [.ref (x.2.2.2 0)] M (jZ P) := by
  refine JC.of rfl (Nat.le_of_ble_eq_true rfl) ?_
  refine jw_ls (ls' := [(0, .ref (x.2.2.2 0))]) rfl ?_
  refine jw_aload_n (pc := 0) (j := 0) dX12_isName_0 rfl rfl ?_
  refine jw_getI (pc := 1) dX12_isName_1 sM_0 fl_X12_132 (by decide) rfl ?_
  refine jw_iconst (pc := 4) (v := 1) dX12_isName_4 rfl ?_
  refine jw_icmp_ne (pc := 5) (tgt := 28) dX12_isName_5 (by decide) (fun c => ?_) (fun c => ?_)
  · replace h := h.1 c
    refine jw_iconst (pc := 28) (v := 0) dX12_isName_28 rfl ?_
    exact jw_zret (pc := 29) dX12_isName_29 rfl (Or.inl rfl) ⟨false, rfl, h⟩
  · replace h := h.2 c
    refine jw_aload_n (pc := 8) (j := 0) dX12_isName_8 rfl rfl ?_
    refine jw_getI (pc := 9) dX12_isName_9 sM_0 fl_X12_145 (by decide) rfl ?_
    refine jw_bipush (pc := 12) (v := 8) dX12_isName_12 rfl ?_
    refine jw_icmp_gt (pc := 14) (tgt := 28) dX12_isName_14 (by decide) (fun c => ?_) (fun c => ?_)
    · replace h := h.1 c
      refine jw_iconst (pc := 28) (v := 0) dX12_isName_28 rfl ?_
      exact jw_zret (pc := 29) dX12_isName_29 rfl (Or.inl rfl) ⟨false, rfl, h⟩
    · replace h := h.2 c
      refine jw_aload_n (pc := 17) (j := 0) dX12_isName_17 rfl rfl ?_
      refine jw_callV (pc := 18) (m2 := mX12_isKept) (As := []) (st := []) dX12_isName_18 sM_0 (by decide) rfl rfl gm_X12_isKept ml_X12_226 rfl (Nat.le_of_ble_eq_true rfl) (JC.mono h ?_)
      clear h
      rintro M1 _ ⟨b1, rfl, h⟩
      refine jw_st (st' := [.int (jb b1)]) rfl ?_
      refine jw_if_ne (pc := 21) (tgt := 28) dX12_isName_21 (by decide) (fun c => ?_) (fun c => ?_)
      · replace h := h.1 (jb_ne c)
        refine jw_iconst (pc := 28) (v := 0) dX12_isName_28 rfl ?_
        exact jw_zret (pc := 29) dX12_isName_29 rfl (Or.inl rfl) ⟨false, rfl, h⟩
      · replace h := h.2 ((jb_0 _).mp c)
        refine jw_iconst (pc := 24) (v := 1) dX12_isName_24 rfl ?_
        refine jw_goto (pc := 25) (tgt := 29) dX12_isName_25 (by decide) ?_
        exact jw_zret (pc := 29) dX12_isName_29 rfl (Or.inr rfl) ⟨true, rfl, h⟩
set_option maxRecDepth 20000 in
theorem b_X12_fail {x : jX} {d : Nat} {M : jM} {P : jM → Prop} {a1 : Int32} {a2 : Int32} 
    (h : ((M.1 0 12) ≤ 0 → ∀ M1, M1 = jrI M 0 (upd (M.1 0) 12 a1) → ∀ M2, M2 = jrI M1 0 (upd (M1.1 0) 13 a2) → P M2) ∧ (¬ (M.1 0 12) ≤ 0 → P M)) :
    JC x jtbM mX12_fail d [.ref (x.2.2.2 0), .int a1, .int a2] M (jV P) := by
  refine JC.of rfl (Nat.le_of_ble_eq_true rfl) ?_
  refine jw_ls (ls' := [(0, .ref (x.2.2.2 0)), (1, .int a1), (2, .int a2)]) rfl ?_
  refine jw_aload_n (pc := 0) (j := 0) dX12_fail_0 rfl rfl ?_
  refine jw_getI (pc := 1) dX12_fail_1 sM_0 fl_X12_229 (by decide) rfl ?_
  refine jw_if_le (pc := 4) (tgt := 8) dX12_fail_4 (by decide) (fun c => ?_) (fun c => ?_)
  · replace h := h.1 c
    refine jw_aload_n (pc := 8) (j := 0) dX12_fail_8 rfl rfl ?_
    refine jw_iload_n (pc := 9) (j := 1) dX12_fail_9 rfl rfl ?_
    refine jw_putI (pc := 10) dX12_fail_10 sM_0 fl_X12_229 fw_12_12 (by decide) rfl ?_
    replace h := h _ rfl
    generalize jrI M 0 (upd (M.1 0) 12 a1) = M1 at h ⊢
    refine jw_aload_n (pc := 13) (j := 0) dX12_fail_13 rfl rfl ?_
    refine jw_iload_n (pc := 14) (j := 2) dX12_fail_14 rfl rfl ?_
    refine jw_putI (pc := 15) dX12_fail_15 sM_0 fl_X12_232 fw_12_13 (by decide) rfl ?_
    replace h := h _ rfl
    generalize jrI M1 0 (upd (M1.1 0) 13 a2) = M2 at h ⊢
    exact jw_vret (pc := 18) dX12_fail_18 rfl ⟨rfl, h⟩
  · replace h := h.2 c
    exact jw_vret (pc := 7) dX12_fail_7 rfl ⟨rfl, h⟩
set_option maxRecDepth 20000 in
theorem b_X12_wrong {x : jX} {d : Nat} {M : jM} {P : jM → Prop}  
    (h : (¬ (M.1 0 14) = (4 : Int32) → JC x jtbM mX12_fail d [.ref (x.2.2.2 0), .int (2 : Int32), .int (M.1 0 15)] M (jV fun M1 => P M1)) ∧ ((M.1 0 14) = (4 : Int32) → JC x jtbM mX12_fail d [.ref (x.2.2.2 0), .int (1 : Int32), .int (M.1 0 15)] M (jV fun M2 => P M2))) :
    JC x jtbM mX12_wrong (d + 1) [.ref (x.2.2.2 0)] M (jV P) := by
  refine JC.of rfl (Nat.le_of_ble_eq_true rfl) ?_
  refine jw_ls (ls' := [(0, .ref (x.2.2.2 0))]) rfl ?_
  refine jw_aload_n (pc := 0) (j := 0) dX12_wrong_0 rfl rfl ?_
  refine jw_aload_n (pc := 1) (j := 0) dX12_wrong_1 rfl rfl ?_
  refine jw_getI (pc := 2) dX12_wrong_2 sM_0 fl_X12_132 (by decide) rfl ?_
  refine jw_iconst (pc := 5) (v := 4) dX12_wrong_5 rfl ?_
  refine jw_icmp_ne (pc := 6) (tgt := 13) dX12_wrong_6 (by decide) (fun c => ?_) (fun c => ?_)
  · replace h := h.1 c
    refine jw_iconst (pc := 13) (v := 2) dX12_wrong_13 rfl ?_
    refine jw_aload_n (pc := 14) (j := 0) dX12_wrong_14 rfl rfl ?_
    refine jw_getI (pc := 15) dX12_wrong_15 sM_0 fl_X12_126 (by decide) rfl ?_
    refine jw_callV (pc := 18) (m2 := mX12_fail) (As := [.int (2 : Int32), .int (M.1 0 15)]) (st := []) dX12_wrong_18 sM_0 (by decide) rfl rfl gm_X12_fail ml_X12_235 rfl (Nat.le_of_ble_eq_true rfl) (JC.mono h ?_)
    clear h
    rintro M1 _ ⟨rfl, h⟩
    refine jw_st (st' := []) rfl ?_
    exact jw_vret (pc := 21) dX12_wrong_21 rfl ⟨rfl, h⟩
  · replace h := h.2 c
    refine jw_iconst (pc := 9) (v := 1) dX12_wrong_9 rfl ?_
    refine jw_goto (pc := 10) (tgt := 14) dX12_wrong_10 (by decide) ?_
    refine jw_aload_n (pc := 14) (j := 0) dX12_wrong_14 rfl rfl ?_
    refine jw_getI (pc := 15) dX12_wrong_15 sM_0 fl_X12_126 (by decide) rfl ?_
    refine jw_callV (pc := 18) (m2 := mX12_fail) (As := [.int (1 : Int32), .int (M.1 0 15)]) (st := []) dX12_wrong_18 sM_0 (by decide) rfl rfl gm_X12_fail ml_X12_235 rfl (Nat.le_of_ble_eq_true rfl) (JC.mono h ?_)
    clear h
    rintro M2 _ ⟨rfl, h⟩
    refine jw_st (st' := []) rfl ?_
    exact jw_vret (pc := 21) dX12_wrong_21 rfl ⟨rfl, h⟩
set_option maxRecDepth 20000 in
theorem b_X12_must {x : jX} {d : Nat} {M : jM} {P : jM → Prop} {a1 : Int32} 
    (h : ((M.1 0 12) ≤ 0 → (a1 = 0 → JC x jtbM mX12_wrong d [.ref (x.2.2.2 0)] M (jV fun M1 => P M1)) ∧ (¬ a1 = 0 → JC x jtbM mX12_next d [.ref (x.2.2.2 0)] M (jV fun M2 => P M2))) ∧ (¬ (M.1 0 12) ≤ 0 → P M)) :
    JC x jtbM mX12_must (d + 1) [.ref (x.2.2.2 0), .int a1] M (jV P) := by
  refine JC.of rfl (Nat.le_of_ble_eq_true rfl) ?_
  refine jw_ls (ls' := [(0, .ref (x.2.2.2 0)), (1, .int a1)]) rfl ?_
  refine jw_aload_n (pc := 0) (j := 0) dX12_must_0 rfl rfl ?_
  refine jw_getI (pc := 1) dX12_must_1 sM_0 fl_X12_229 (by decide) rfl ?_
  refine jw_if_le (pc := 4) (tgt := 8) dX12_must_4 (by decide) (fun c => ?_) (fun c => ?_)
  · replace h := h.1 c
    refine jw_iload_n (pc := 8) (j := 1) dX12_must_8 rfl rfl ?_
    refine jw_if_eq (pc := 9) (tgt := 19) dX12_must_9 (by decide) (fun c => ?_) (fun c => ?_)
    · replace h := h.1 c
      refine jw_aload_n (pc := 19) (j := 0) dX12_must_19 rfl rfl ?_
      refine jw_callV (pc := 20) (m2 := mX12_wrong) (As := []) (st := []) dX12_must_20 sM_0 (by decide) rfl rfl gm_X12_wrong ml_X12_242 rfl (Nat.le_of_ble_eq_true rfl) (JC.mono h ?_)
      clear h
      rintro M1 _ ⟨rfl, h⟩
      refine jw_st (st' := []) rfl ?_
      exact jw_vret (pc := 23) dX12_must_23 rfl ⟨rfl, h⟩
    · replace h := h.2 c
      refine jw_aload_n (pc := 12) (j := 0) dX12_must_12 rfl rfl ?_
      refine jw_callV (pc := 13) (m2 := mX12_next) (As := []) (st := []) dX12_must_13 sM_0 (by decide) rfl rfl gm_X12_next ml_X12_239 rfl (Nat.le_of_ble_eq_true rfl) (JC.mono h ?_)
      clear h
      rintro M2 _ ⟨rfl, h⟩
      refine jw_st (st' := []) rfl ?_
      refine jw_goto (pc := 16) (tgt := 23) dX12_must_16 (by decide) ?_
      exact jw_vret (pc := 23) dX12_must_23 rfl ⟨rfl, h⟩
  · replace h := h.2 c
    exact jw_vret (pc := 7) dX12_must_7 rfl ⟨rfl, h⟩
set_option maxRecDepth 20000 in
theorem b_X12_count {x : jX} {d : Nat} {M : jM} {P : jM → Int32 → Prop} {a1 : Int32} {a2 : Int32} 
    (h : (¬ (M.1 0 12) = 0 → JW x jtbM mX12_count (d + 1) (jI P) 19 [(0, .ref (x.2.2.2 0)), (1, .int a1), (2, .int a2)] [] M) ∧ ((M.1 0 12) = 0 → ((M.1 0 14) = (2 : Int32) → JW x jtbM mX12_count (d + 1) (jI P) 19 [(0, .ref (x.2.2.2 0)), (1, .int a1), (2, .int a2)] [] M) ∧ (¬ (M.1 0 14) = (2 : Int32) → JC x jtbM mX12_wrong d [.ref (x.2.2.2 0)] M (jV fun M1 => JW x jtbM mX12_count (d + 1) (jI P) 19 [(0, .ref (x.2.2.2 0)), (1, .int a1), (2, .int a2)] [] M1)))) :
    JC x jtbM mX12_count (d + 1) [.ref (x.2.2.2 0), .int a1, .int a2] M (jI P) := by
  refine JC.of rfl (Nat.le_of_ble_eq_true rfl) ?_
  refine jw_ls (ls' := [(0, .ref (x.2.2.2 0)), (1, .int a1), (2, .int a2)]) rfl ?_
  refine jw_aload_n (pc := 0) (j := 0) dX12_count_0 rfl rfl ?_
  refine jw_getI (pc := 1) dX12_count_1 sM_0 fl_X12_229 (by decide) rfl ?_
  refine jw_if_ne (pc := 4) (tgt := 19) dX12_count_4 (by decide) (fun c => ?_) (fun c => ?_)
  · replace h := h.1 c
    exact jw_sub [0, 1, 2] rfl h
  · replace h := h.2 c
    refine jw_aload_n (pc := 7) (j := 0) dX12_count_7 rfl rfl ?_
    refine jw_getI (pc := 8) dX12_count_8 sM_0 fl_X12_132 (by decide) rfl ?_
    refine jw_iconst (pc := 11) (v := 2) dX12_count_11 rfl ?_
    refine jw_icmp_eq (pc := 12) (tgt := 19) dX12_count_12 (by decide) (fun c => ?_) (fun c => ?_)
    · replace h := h.1 c
      exact jw_sub [0, 1, 2] rfl h
    · replace h := h.2 c
      refine jw_aload_n (pc := 15) (j := 0) dX12_count_15 rfl rfl ?_
      refine jw_callV (pc := 16) (m2 := mX12_wrong) (As := []) (st := []) dX12_count_16 sM_0 (by decide) rfl rfl gm_X12_wrong ml_X12_242 rfl (Nat.le_of_ble_eq_true rfl) (JC.mono h ?_)
      clear h
      rintro M1 _ ⟨rfl, h⟩
      refine jw_st (st' := []) rfl ?_
      exact jw_sub [0, 1, 2] rfl h
set_option maxRecDepth 20000 in
theorem b_X12_count_19 {x : jX} {d : Nat} {M : jM} {P : jM → Int32 → Prop} {l1 : Int32} {l2 : Int32} 
    (h : (¬ (M.1 0 12) = 0 → JW x jtbM mX12_count (d + 1) (jI P) 50 [(0, .ref (x.2.2.2 0))] [] M) ∧ ((M.1 0 12) = 0 → JC x jtbM mX12_isIn d [.long ((M.1 0 17).toInt64), .long l1.toInt64, .long l2.toInt64] M (jZ fun M1 b1 => (b1 = true → JW x jtbM mX12_count (d + 1) (jI P) 50 [(0, .ref (x.2.2.2 0))] [] M1) ∧ (b1 = false → JC x jtbM mX12_fail d [.ref (x.2.2.2 0), .int (4 : Int32), .int (M1.1 0 15)] M1 (jV fun M2 => JW x jtbM mX12_count (d + 1) (jI P) 50 [(0, .ref (x.2.2.2 0))] [] M2))))) :
    JW x jtbM mX12_count (d + 1) (jI P) 19 [(0, .ref (x.2.2.2 0)), (1, .int l1), (2, .int l2)] [] M := by
  refine jw_aload_n (pc := 19) (j := 0) dX12_count_19 rfl rfl ?_
  refine jw_getI (pc := 20) dX12_count_20 sM_0 fl_X12_229 (by decide) rfl ?_
  refine jw_if_ne (pc := 23) (tgt := 50) dX12_count_23 (by decide) (fun c => ?_) (fun c => ?_)
  · replace h := h.1 c
    exact jw_sub [0] rfl h
  · replace h := h.2 c
    refine jw_aload_n (pc := 26) (j := 0) dX12_count_26 rfl rfl ?_
    refine jw_getI (pc := 27) dX12_count_27 sM_0 fl_X12_151 (by decide) rfl ?_
    refine jw_i2l (pc := 30) dX12_count_30 ?_
    refine jw_iload_n (pc := 31) (j := 1) dX12_count_31 rfl rfl ?_
    refine jw_i2l (pc := 32) dX12_count_32 ?_
    refine jw_iload_n (pc := 33) (j := 2) dX12_count_33 rfl rfl ?_
    refine jw_i2l (pc := 34) dX12_count_34 ?_
    refine jw_callS (pc := 35) (m2 := mX12_isIn) (As := [.long ((M.1 0 17).toInt64), .long l1.toInt64, .long l2.toInt64]) (st := []) dX12_count_35 gm_X12_isIn ml_X12_116 rfl (Nat.le_of_ble_eq_true rfl) (JC.mono h ?_)
    clear h
    rintro M1 _ ⟨b1, rfl, h⟩
    refine jw_st (st' := [.int (jb b1)]) rfl ?_
    refine jw_if_ne (pc := 38) (tgt := 50) dX12_count_38 (by decide) (fun c => ?_) (fun c => ?_)
    · replace h := h.1 (jb_ne c)
      exact jw_sub [0] rfl h
    · replace h := h.2 ((jb_0 _).mp c)
      refine jw_aload_n (pc := 41) (j := 0) dX12_count_41 rfl rfl ?_
      refine jw_iconst (pc := 42) (v := 4) dX12_count_42 rfl ?_
      refine jw_aload_n (pc := 43) (j := 0) dX12_count_43 rfl rfl ?_
      refine jw_getI (pc := 44) dX12_count_44 sM_0 fl_X12_126 (by decide) rfl ?_
      refine jw_callV (pc := 47) (m2 := mX12_fail) (As := [.int (4 : Int32), .int (M1.1 0 15)]) (st := []) dX12_count_47 sM_0 (by decide) rfl rfl gm_X12_fail ml_X12_235 rfl (Nat.le_of_ble_eq_true rfl) (JC.mono h ?_)
      clear h
      rintro M2 _ ⟨rfl, h⟩
      refine jw_st (st' := []) rfl ?_
      exact jw_sub [0] rfl h
set_option maxRecDepth 20000 in
theorem b_X12_count_50 {x : jX} {d : Nat} {M : jM} {P : jM → Int32 → Prop}  
    (h : ((M.1 0 12) ≤ 0 → JC x jtbM mX12_next d [.ref (x.2.2.2 0)] M (jV fun M1 => P M1 (M.1 0 17))) ∧ (¬ (M.1 0 12) ≤ 0 → P M (0 : Int32))) :
    JW x jtbM mX12_count (d + 1) (jI P) 50 [(0, .ref (x.2.2.2 0))] [] M := by
  refine jw_aload_n (pc := 50) (j := 0) dX12_count_50 rfl rfl ?_
  refine jw_getI (pc := 51) dX12_count_51 sM_0 fl_X12_229 (by decide) rfl ?_
  refine jw_if_le (pc := 54) (tgt := 59) dX12_count_54 (by decide) (fun c => ?_) (fun c => ?_)
  · replace h := h.1 c
    refine jw_aload_n (pc := 59) (j := 0) dX12_count_59 rfl rfl ?_
    refine jw_getI (pc := 60) dX12_count_60 sM_0 fl_X12_151 (by decide) rfl ?_
    refine jw_istore_n (pc := 63) (ls' := [(3, .int (M.1 0 17)), (0, .ref (x.2.2.2 0))]) dX12_count_63 rfl (by decide) rfl ?_
    refine jw_aload_n (pc := 64) (j := 1) dX12_count_64 rfl rfl ?_
    refine jw_callV (pc := 65) (m2 := mX12_next) (As := []) (st := []) dX12_count_65 sM_0 (by decide) rfl rfl gm_X12_next ml_X12_239 rfl (Nat.le_of_ble_eq_true rfl) (JC.mono h ?_)
    clear h
    rintro M1 _ ⟨rfl, h⟩
    refine jw_st (st' := []) rfl ?_
    refine jw_iload_n (pc := 68) (j := 0) dX12_count_68 rfl rfl ?_
    exact jw_iret (pc := 69) dX12_count_69 rfl ⟨_, rfl, h⟩
  · replace h := h.2 c
    refine jw_iconst (pc := 57) (v := 0) dX12_count_57 rfl ?_
    exact jw_iret (pc := 58) dX12_count_58 rfl ⟨_, rfl, h⟩
set_option maxRecDepth 20000 in
theorem b_X12_feed {x : jX} {d : Nat} {M : jM} {P : jM → Int32 → Prop} {a1 : Int32} {a2 : Int32} {a3 : Int32} {a4 : Int32} {a5 : Int32} 
    (h : ∀ M1, M1 = jrI M 0 (upd (M.1 0) 1 (0 : Int32)) → (((M1.1 0 8) + (20 : Int32)) ≤ (900 : Int32) → JC x jtbM mX12_lay d [.ref (x.2.2.2 0), .int a1] M1 (jV fun M2 => JC x jtbM mX12_lay d [.ref (x.2.2.2 0), .int a2] M2 (jV fun M3 => JC x jtbM mX12_lay d [.ref (x.2.2.2 0), .int a3] M3 (jV fun M4 => JC x jtbM mX12_lay d [.ref (x.2.2.2 0), .int a4] M4 (jV fun M5 => JC x jtbM mX12_lay d [.ref (x.2.2.2 0), .int a5] M5 (jV fun M6 => P M6 (M6.1 0 8))))))) ∧ (¬ ((M1.1 0 8) + (20 : Int32)) ≤ (900 : Int32) → P M1 (-1 : Int32))) :
    JC x jtbM mX12_feed (d + 1) [.ref (x.2.2.2 0), .int a1, .int a2, .int a3, .int a4, .int a5] M (jI P) := by
  refine JC.of rfl (Nat.le_of_ble_eq_true rfl) ?_
  refine jw_ls (ls' := [(0, .ref (x.2.2.2 0)), (1, .int a1), (2, .int a2), (3, .int a3), (4, .int a4), (5, .int a5)]) rfl ?_
  refine jw_aload_n (pc := 0) (j := 0) dX12_feed_0 rfl rfl ?_
  refine jw_iconst (pc := 1) (v := 0) dX12_feed_1 rfl ?_
  refine jw_putI (pc := 2) dX12_feed_2 sM_0 fl_X12_81 fw_12_1 (by decide) rfl ?_
  replace h := h _ rfl
  generalize jrI M 0 (upd (M.1 0) 1 (0 : Int32)) = M1 at h ⊢
  refine jw_aload_n (pc := 5) (j := 0) dX12_feed_5 rfl rfl ?_
  refine jw_getI (pc := 6) dX12_feed_6 sM_0 fl_X12_245 (by decide) rfl ?_
  refine jw_bipush (pc := 9) (v := 20) dX12_feed_9 rfl ?_
  refine jw_iadd (pc := 11) dX12_feed_11 ?_
  refine jw_sipush (pc := 12) (v := 900) dX12_feed_12 rfl ?_
  refine jw_icmp_le (pc := 15) (tgt := 20) dX12_feed_15 (by decide) (fun c => ?_) (fun c => ?_)
  · replace h := h.1 c
    refine jw_aload_n (pc := 20) (j := 0) dX12_feed_20 rfl rfl ?_
    refine jw_iload_n (pc := 21) (j := 1) dX12_feed_21 rfl rfl ?_
    refine jw_callV (pc := 22) (m2 := mX12_lay) (As := [.int a1]) (st := []) dX12_feed_22 sM_0 (by decide) rfl rfl gm_X12_lay ml_X12_248 rfl (Nat.le_of_ble_eq_true rfl) (JC.mono h ?_)
    clear h
    rintro M2 _ ⟨rfl, h⟩
    refine jw_st (st' := []) rfl ?_
    refine jw_aload_n (pc := 25) (j := 0) dX12_feed_25 rfl rfl ?_
    refine jw_iload_n (pc := 26) (j := 2) dX12_feed_26 rfl rfl ?_
    refine jw_callV (pc := 27) (m2 := mX12_lay) (As := [.int a2]) (st := []) dX12_feed_27 sM_0 (by decide) rfl rfl gm_X12_lay ml_X12_248 rfl (Nat.le_of_ble_eq_true rfl) (JC.mono h ?_)
    clear h
    rintro M3 _ ⟨rfl, h⟩
    refine jw_st (st' := []) rfl ?_
    refine jw_aload_n (pc := 30) (j := 0) dX12_feed_30 rfl rfl ?_
    refine jw_iload_n (pc := 31) (j := 3) dX12_feed_31 rfl rfl ?_
    refine jw_callV (pc := 32) (m2 := mX12_lay) (As := [.int a3]) (st := []) dX12_feed_32 sM_0 (by decide) rfl rfl gm_X12_lay ml_X12_248 rfl (Nat.le_of_ble_eq_true rfl) (JC.mono h ?_)
    clear h
    rintro M4 _ ⟨rfl, h⟩
    refine jw_st (st' := []) rfl ?_
    refine jw_aload_n (pc := 35) (j := 0) dX12_feed_35 rfl rfl ?_
    refine jw_iload (pc := 36) (j := 4) dX12_feed_36 rfl ?_
    refine jw_callV (pc := 38) (m2 := mX12_lay) (As := [.int a4]) (st := []) dX12_feed_38 sM_0 (by decide) rfl rfl gm_X12_lay ml_X12_248 rfl (Nat.le_of_ble_eq_true rfl) (JC.mono h ?_)
    clear h
    rintro M5 _ ⟨rfl, h⟩
    refine jw_st (st' := []) rfl ?_
    refine jw_aload_n (pc := 41) (j := 0) dX12_feed_41 rfl rfl ?_
    refine jw_iload (pc := 42) (j := 5) dX12_feed_42 rfl ?_
    refine jw_callV (pc := 44) (m2 := mX12_lay) (As := [.int a5]) (st := []) dX12_feed_44 sM_0 (by decide) rfl rfl gm_X12_lay ml_X12_248 rfl (Nat.le_of_ble_eq_true rfl) (JC.mono h ?_)
    clear h
    rintro M6 _ ⟨rfl, h⟩
    refine jw_st (st' := []) rfl ?_
    refine jw_aload_n (pc := 47) (j := 0) dX12_feed_47 rfl rfl ?_
    refine jw_getI (pc := 48) dX12_feed_48 sM_0 fl_X12_245 (by decide) rfl ?_
    exact jw_iret (pc := 51) dX12_feed_51 rfl ⟨_, rfl, h⟩
  · replace h := h.2 c
    refine jw_iconst (pc := 18) (v := (-1)) dX12_feed_18 rfl ?_
    exact jw_iret (pc := 19) dX12_feed_19 rfl ⟨_, rfl, h⟩
set_option maxRecDepth 20000 in
theorem b_X12_lay {x : jX} {d : Nat} {M : jM} {P : jM → Prop} {a1 : Int32} 
    (h : JW x jtbM mX12_lay d (jV P) 2 [(0, .ref (x.2.2.2 0)), (1, .int a1), (2, .int (3 : Int32))] [] M) :
    JC x jtbM mX12_lay d [.ref (x.2.2.2 0), .int a1] M (jV P) := by
  refine JC.of rfl (Nat.le_of_ble_eq_true rfl) ?_
  refine jw_ls (ls' := [(0, .ref (x.2.2.2 0)), (1, .int a1)]) rfl ?_
  refine jw_iconst (pc := 0) (v := 3) dX12_lay_0 rfl ?_
  refine jw_istore_n (pc := 1) (ls' := [(2, .int (3 : Int32)), (0, .ref (x.2.2.2 0)), (1, .int a1)]) dX12_lay_1 rfl (by decide) rfl ?_
  exact jw_sub [1, 2, 0] rfl h
set_option maxRecDepth 20000 in
theorem b_X12_lay_2 {x : jX} {d : Nat} {M : jM} {P : jM → Prop} {l1 : Int32} {l2 : Int32} 
    (h : (l2 < 0 → P M) ∧ (¬ l2 < 0 → ∃ j1, j1 < 900 ∧ M.1 0 8 = nI j1 ∧ (∀ M1, M1 = jrI M 4 (upd (M.1 4) j1 (((l1 >>> (((8 : Int32) * l2) &&& 31)).toInt8.toInt32).toInt8.toInt32)) → ∀ M2, M2 = jrI M1 0 (upd (M1.1 0) 8 ((M1.1 0 8) + (1 : Int32))) → JW x jtbM mX12_lay d (jV P) 2 [(0, .ref (x.2.2.2 0)), (1, .int l1), (2, .int (l2 + (-1)))] [] M2))) :
    JW x jtbM mX12_lay d (jV P) 2 [(0, .ref (x.2.2.2 0)), (1, .int l1), (2, .int l2)] [] M := by
  refine jw_iload_n (pc := 2) (j := 2) dX12_lay_2 rfl rfl ?_
  refine jw_if_lt (pc := 3) (tgt := 38) dX12_lay_3 (by decide) (fun c => ?_) (fun c => ?_)
  · replace h := h.1 c
    exact jw_vret (pc := 38) dX12_lay_38 rfl ⟨rfl, h⟩
  · replace h := h.2 c
    refine jw_aload_n (pc := 6) (j := 0) dX12_lay_6 rfl rfl ?_
    refine jw_getR (pc := 7) (r := 4) dX12_lay_7 sM_0 fl_X12_24 (by decide) rfl rfl ?_
    refine jw_aload_n (pc := 10) (j := 0) dX12_lay_10 rfl rfl ?_
    refine jw_getI (pc := 11) dX12_lay_11 sM_0 fl_X12_245 (by decide) rfl ?_
    refine jw_iload_n (pc := 14) (j := 1) dX12_lay_14 rfl rfl ?_
    refine jw_bipush (pc := 15) (v := 8) dX12_lay_15 rfl ?_
    refine jw_iload_n (pc := 17) (j := 2) dX12_lay_17 rfl rfl ?_
    refine jw_imul (pc := 18) dX12_lay_18 ?_
    refine jw_ishr (pc := 19) dX12_lay_19 ?_
    refine jw_i2b (pc := 20) dX12_lay_20 ?_
    obtain ⟨j1, hj1, ej1, h⟩ := h
    refine jw_bast (pc := 21) (j := j1) dX12_lay_21 sM_4 hj1 ej1 (by decide) ?_
    replace h := h _ rfl
    generalize jrI M 4 (upd (M.1 4) j1 (((l1 >>> (((8 : Int32) * l2) &&& 31)).toInt8.toInt32).toInt8.toInt32)) = M1 at h ⊢
    refine jw_aload_n (pc := 22) (j := 0) dX12_lay_22 rfl rfl ?_
    refine jw_dup (pc := 23) dX12_lay_23 rfl ?_
    refine jw_getI (pc := 24) dX12_lay_24 sM_0 fl_X12_245 (by decide) rfl ?_
    refine jw_iconst (pc := 27) (v := 1) dX12_lay_27 rfl ?_
    refine jw_iadd (pc := 28) dX12_lay_28 ?_
    refine jw_putI (pc := 29) dX12_lay_29 sM_0 fl_X12_245 fw_12_8 (by decide) rfl ?_
    replace h := h _ rfl
    generalize jrI M1 0 (upd (M1.1 0) 8 ((M1.1 0 8) + (1 : Int32))) = M2 at h ⊢
    refine jw_iinc (pc := 32) (j := 2) (u := l2 + (-1)) (ls' := [(2, .int (l2 + (-1))), (0, .ref (x.2.2.2 0)), (1, .int l1)]) dX12_lay_32 rfl rfl (by decide) rfl ?_
    refine jw_goto (pc := 35) (tgt := 2) dX12_lay_35 (by decide) ?_
    exact jw_sub [1, 2, 0] rfl h
set_option maxRecDepth 20000 in
theorem b_X12_opens {x : jX} {d : Nat} {M : jM} {P : jM → Bool → Prop} {a1 : Int32} {a2 : Int32} 
    (h : (a1 < 0 → JC x jtbM mX12_no d [.ref (x.2.2.2 0), .int (5 : Int32)] M (jZ fun M1 b1 => P M1 b1)) ∧ (¬ a1 < 0 → ((M.1 0 8) < a1 → JC x jtbM mX12_no d [.ref (x.2.2.2 0), .int (5 : Int32)] M (jZ fun M2 b2 => P M2 b2)) ∧ (¬ (M.1 0 8) < a1 → (a1 ≤ a2 → ∀ M3, M3 = jrI M 0 (upd (M.1 0) 9 a1) → ∀ M4, M4 = jrI M3 0 (upd (M3.1 0) 8 (0 : Int32)) → ∀ M5, M5 = jrI M4 0 (upd (M4.1 0) 16 (0 : Int32)) → ∀ M6, M6 = jrI M5 0 (upd (M5.1 0) 12 (0 : Int32)) → JC x jtbM mX12_next d [.ref (x.2.2.2 0)] M6 (jV fun M7 => P M7 true)) ∧ (¬ a1 ≤ a2 → JC x jtbM mX12_no d [.ref (x.2.2.2 0), .int (5 : Int32)] M (jZ fun M8 b3 => P M8 b3))))) :
    JC x jtbM mX12_opens (d + 1) [.ref (x.2.2.2 0), .int a1, .int a2] M (jZ P) := by
  refine JC.of rfl (Nat.le_of_ble_eq_true rfl) ?_
  refine jw_ls (ls' := [(0, .ref (x.2.2.2 0)), (1, .int a1), (2, .int a2)]) rfl ?_
  refine jw_iload_n (pc := 0) (j := 1) dX12_opens_0 rfl rfl ?_
  refine jw_if_lt (pc := 1) (tgt := 17) dX12_opens_1 (by decide) (fun c => ?_) (fun c => ?_)
  · replace h := h.1 c
    refine jw_aload_n (pc := 17) (j := 0) dX12_opens_17 rfl rfl ?_
    refine jw_iconst (pc := 18) (v := 5) dX12_opens_18 rfl ?_
    refine jw_callV (pc := 19) (m2 := mX12_no) (As := [.int (5 : Int32)]) (st := []) dX12_opens_19 sM_0 (by decide) rfl rfl gm_X12_no ml_X12_96 rfl (Nat.le_of_ble_eq_true rfl) (JC.mono h ?_)
    clear h
    rintro M1 _ ⟨b1, rfl, h⟩
    refine jw_st (st' := [.int (jb b1)]) rfl ?_
    exact jw_zret (pc := 22) dX12_opens_22 rfl (jb_01 _) ⟨_, rfl, h⟩
  · replace h := h.2 c
    refine jw_iload_n (pc := 4) (j := 1) dX12_opens_4 rfl rfl ?_
    refine jw_aload_n (pc := 5) (j := 0) dX12_opens_5 rfl rfl ?_
    refine jw_getI (pc := 6) dX12_opens_6 sM_0 fl_X12_245 (by decide) rfl ?_
    refine jw_icmp_gt (pc := 9) (tgt := 17) dX12_opens_9 (by decide) (fun c => ?_) (fun c => ?_)
    · replace h := h.1 c
      refine jw_aload_n (pc := 17) (j := 0) dX12_opens_17 rfl rfl ?_
      refine jw_iconst (pc := 18) (v := 5) dX12_opens_18 rfl ?_
      refine jw_callV (pc := 19) (m2 := mX12_no) (As := [.int (5 : Int32)]) (st := []) dX12_opens_19 sM_0 (by decide) rfl rfl gm_X12_no ml_X12_96 rfl (Nat.le_of_ble_eq_true rfl) (JC.mono h ?_)
      clear h
      rintro M2 _ ⟨b2, rfl, h⟩
      refine jw_st (st' := [.int (jb b2)]) rfl ?_
      exact jw_zret (pc := 22) dX12_opens_22 rfl (jb_01 _) ⟨_, rfl, h⟩
    · replace h := h.2 c
      refine jw_iload_n (pc := 12) (j := 1) dX12_opens_12 rfl rfl ?_
      refine jw_iload_n (pc := 13) (j := 2) dX12_opens_13 rfl rfl ?_
      refine jw_icmp_le (pc := 14) (tgt := 23) dX12_opens_14 (by decide) (fun c => ?_) (fun c => ?_)
      · replace h := h.1 c
        refine jw_aload_n (pc := 23) (j := 0) dX12_opens_23 rfl rfl ?_
        refine jw_iload_n (pc := 24) (j := 1) dX12_opens_24 rfl rfl ?_
        refine jw_putI (pc := 25) dX12_opens_25 sM_0 fl_X12_120 fw_12_9 (by decide) rfl ?_
        replace h := h _ rfl
        generalize jrI M 0 (upd (M.1 0) 9 a1) = M3 at h ⊢
        refine jw_aload_n (pc := 28) (j := 0) dX12_opens_28 rfl rfl ?_
        refine jw_iconst (pc := 29) (v := 0) dX12_opens_29 rfl ?_
        refine jw_putI (pc := 30) dX12_opens_30 sM_0 fl_X12_245 fw_12_8 (by decide) rfl ?_
        replace h := h _ rfl
        generalize jrI M3 0 (upd (M3.1 0) 8 (0 : Int32)) = M4 at h ⊢
        refine jw_aload_n (pc := 33) (j := 0) dX12_opens_33 rfl rfl ?_
        refine jw_iconst (pc := 34) (v := 0) dX12_opens_34 rfl ?_
        refine jw_putI (pc := 35) dX12_opens_35 sM_0 fl_X12_123 fw_12_16 (by decide) rfl ?_
        replace h := h _ rfl
        generalize jrI M4 0 (upd (M4.1 0) 16 (0 : Int32)) = M5 at h ⊢
        refine jw_aload_n (pc := 38) (j := 0) dX12_opens_38 rfl rfl ?_
        refine jw_iconst (pc := 39) (v := 0) dX12_opens_39 rfl ?_
        refine jw_putI (pc := 40) dX12_opens_40 sM_0 fl_X12_229 fw_12_12 (by decide) rfl ?_
        replace h := h _ rfl
        generalize jrI M5 0 (upd (M5.1 0) 12 (0 : Int32)) = M6 at h ⊢
        refine jw_aload_n (pc := 43) (j := 0) dX12_opens_43 rfl rfl ?_
        refine jw_callV (pc := 44) (m2 := mX12_next) (As := []) (st := []) dX12_opens_44 sM_0 (by decide) rfl rfl gm_X12_next ml_X12_239 rfl (Nat.le_of_ble_eq_true rfl) (JC.mono h ?_)
        clear h
        rintro M7 _ ⟨rfl, h⟩
        refine jw_st (st' := []) rfl ?_
        refine jw_iconst (pc := 47) (v := 1) dX12_opens_47 rfl ?_
        exact jw_zret (pc := 48) dX12_opens_48 rfl (Or.inr rfl) ⟨true, rfl, h⟩
      · replace h := h.2 c
        refine jw_aload_n (pc := 17) (j := 0) dX12_opens_17 rfl rfl ?_
        refine jw_iconst (pc := 18) (v := 5) dX12_opens_18 rfl ?_
        refine jw_callV (pc := 19) (m2 := mX12_no) (As := [.int (5 : Int32)]) (st := []) dX12_opens_19 sM_0 (by decide) rfl rfl gm_X12_no ml_X12_96 rfl (Nat.le_of_ble_eq_true rfl) (JC.mono h ?_)
        clear h
        rintro M8 _ ⟨b3, rfl, h⟩
        refine jw_st (st' := [.int (jb b3)]) rfl ?_
        exact jw_zret (pc := 22) dX12_opens_22 rfl (jb_01 _) ⟨_, rfl, h⟩
set_option maxRecDepth 20000 in
theorem b_X12_isWell {x : jX} {d : Nat} {M : jM} {P : jM → Bool → Prop}  
    (h : ∀ M1, M1 = jrI M 0 (upd (M.1 0) 10 (M.1 0 12)) → (¬ (M1.1 0 12) = 0 → JW x jtbM mX12_isWell (d + 1) (jZ P) 24 [(0, .ref (x.2.2.2 0))] [.int (M1.1 0 13), .ref (x.2.2.2 0)] M1) ∧ ((M1.1 0 12) = 0 → JW x jtbM mX12_isWell (d + 1) (jZ P) 24 [(0, .ref (x.2.2.2 0))] [.int (-1 : Int32), .ref (x.2.2.2 0)] M1)) :
    JC x jtbM mX12_isWell (d + 1) [.ref (x.2.2.2 0)] M (jZ P) := by
  refine JC.of rfl (Nat.le_of_ble_eq_true rfl) ?_
  refine jw_ls (ls' := [(0, .ref (x.2.2.2 0))]) rfl ?_
  refine jw_aload_n (pc := 0) (j := 0) dX12_isWell_0 rfl rfl ?_
  refine jw_aload_n (pc := 1) (j := 0) dX12_isWell_1 rfl rfl ?_
  refine jw_getI (pc := 2) dX12_isWell_2 sM_0 fl_X12_229 (by decide) rfl ?_
  refine jw_putI (pc := 5) dX12_isWell_5 sM_0 fl_X12_28 fw_12_10 (by decide) rfl ?_
  replace h := h _ rfl
  generalize jrI M 0 (upd (M.1 0) 10 (M.1 0 12)) = M1 at h ⊢
  refine jw_aload_n (pc := 8) (j := 0) dX12_isWell_8 rfl rfl ?_
  refine jw_aload_n (pc := 9) (j := 0) dX12_isWell_9 rfl rfl ?_
  refine jw_getI (pc := 10) dX12_isWell_10 sM_0 fl_X12_229 (by decide) rfl ?_
  refine jw_if_ne (pc := 13) (tgt := 20) dX12_isWell_13 (by decide) (fun c => ?_) (fun c => ?_)
  · replace h := h.1 c
    refine jw_aload_n (pc := 20) (j := 0) dX12_isWell_20 rfl rfl ?_
    refine jw_getI (pc := 21) dX12_isWell_21 sM_0 fl_X12_232 (by decide) rfl ?_
    exact jw_sub [0] rfl h
  · replace h := h.2 c
    refine jw_iconst (pc := 16) (v := (-1)) dX12_isWell_16 rfl ?_
    refine jw_goto (pc := 17) (tgt := 24) dX12_isWell_17 (by decide) ?_
    exact jw_sub [0] rfl h
set_option maxRecDepth 20000 in
theorem b_X12_isWell_24 {x : jX} {d : Nat} {M : jM} {P : jM → Bool → Prop} {k0 : Int32} 
    (h : ∀ M1, M1 = jrI M 0 (upd (M.1 0) 11 k0) → ((M1.1 0 12) = 0 → P M1 true) ∧ (¬ (M1.1 0 12) = 0 → JC x jtbM mX12_no d [.ref (x.2.2.2 0), .int (10 : Int32)] M1 (jZ fun M2 b1 => (b1 = false → P M2 false) ∧ (b1 = true → P M2 true)))) :
    JW x jtbM mX12_isWell (d + 1) (jZ P) 24 [(0, .ref (x.2.2.2 0))] [.int k0, .ref (x.2.2.2 0)] M := by
  refine jw_putI (pc := 24) dX12_isWell_24 sM_0 fl_X12_32 fw_12_11 (by decide) rfl ?_
  replace h := h _ rfl
  generalize jrI M 0 (upd (M.1 0) 11 k0) = M1 at h ⊢
  refine jw_aload_n (pc := 27) (j := 0) dX12_isWell_27 rfl rfl ?_
  refine jw_getI (pc := 28) dX12_isWell_28 sM_0 fl_X12_229 (by decide) rfl ?_
  refine jw_if_eq (pc := 31) (tgt := 43) dX12_isWell_31 (by decide) (fun c => ?_) (fun c => ?_)
  · replace h := h.1 c
    refine jw_iconst (pc := 43) (v := 1) dX12_isWell_43 rfl ?_
    refine jw_goto (pc := 44) (tgt := 48) dX12_isWell_44 (by decide) ?_
    exact jw_zret (pc := 48) dX12_isWell_48 rfl (Or.inr rfl) ⟨true, rfl, h⟩
  · replace h := h.2 c
    refine jw_aload_n (pc := 34) (j := 0) dX12_isWell_34 rfl rfl ?_
    refine jw_bipush (pc := 35) (v := 10) dX12_isWell_35 rfl ?_
    refine jw_callV (pc := 37) (m2 := mX12_no) (As := [.int (10 : Int32)]) (st := []) dX12_isWell_37 sM_0 (by decide) rfl rfl gm_X12_no ml_X12_96 rfl (Nat.le_of_ble_eq_true rfl) (JC.mono h ?_)
    clear h
    rintro M2 _ ⟨b1, rfl, h⟩
    refine jw_st (st' := [.int (jb b1)]) rfl ?_
    refine jw_if_eq (pc := 40) (tgt := 47) dX12_isWell_40 (by decide) (fun c => ?_) (fun c => ?_)
    · replace h := h.1 ((jb_0 _).mp c)
      refine jw_iconst (pc := 47) (v := 0) dX12_isWell_47 rfl ?_
      exact jw_zret (pc := 48) dX12_isWell_48 rfl (Or.inl rfl) ⟨false, rfl, h⟩
    · replace h := h.2 (jb_ne c)
      refine jw_iconst (pc := 43) (v := 1) dX12_isWell_43 rfl ?_
      refine jw_goto (pc := 44) (tgt := 48) dX12_isWell_44 (by decide) ?_
      exact jw_zret (pc := 48) dX12_isWell_48 rfl (Or.inr rfl) ⟨true, rfl, h⟩
set_option maxRecDepth 20000 in
theorem b_X12_fault {x : jX} {d : Nat} {M : jM} {P : jM → Int32 → Prop} {a1 : Int32} 
    (h : ∀ M1, M1 = jrI M 0 (upd (M.1 0) 1 (0 : Int32)) → (¬ a1 = 0 → (¬ a1 = (1 : Int32) → P M1 (-1 : Int32)) ∧ (a1 = (1 : Int32) → P M1 (M1.1 0 11))) ∧ (a1 = 0 → P M1 (M1.1 0 10))) :
    JC x jtbM mX12_fault d [.ref (x.2.2.2 0), .int a1] M (jI P) := by
  refine JC.of rfl (Nat.le_of_ble_eq_true rfl) ?_
  refine jw_ls (ls' := [(0, .ref (x.2.2.2 0)), (1, .int a1)]) rfl ?_
  refine jw_aload_n (pc := 0) (j := 0) dX12_fault_0 rfl rfl ?_
  refine jw_iconst (pc := 1) (v := 0) dX12_fault_1 rfl ?_
  refine jw_putI (pc := 2) dX12_fault_2 sM_0 fl_X12_81 fw_12_1 (by decide) rfl ?_
  replace h := h _ rfl
  generalize jrI M 0 (upd (M.1 0) 1 (0 : Int32)) = M1 at h ⊢
  refine jw_iload_n (pc := 5) (j := 1) dX12_fault_5 rfl rfl ?_
  refine jw_if_ne (pc := 6) (tgt := 16) dX12_fault_6 (by decide) (fun c => ?_) (fun c => ?_)
  · replace h := h.1 c
    refine jw_iload_n (pc := 16) (j := 1) dX12_fault_16 rfl rfl ?_
    refine jw_iconst (pc := 17) (v := 1) dX12_fault_17 rfl ?_
    refine jw_icmp_ne (pc := 18) (tgt := 28) dX12_fault_18 (by decide) (fun c => ?_) (fun c => ?_)
    · replace h := h.1 c
      refine jw_iconst (pc := 28) (v := (-1)) dX12_fault_28 rfl ?_
      exact jw_iret (pc := 29) dX12_fault_29 rfl ⟨_, rfl, h⟩
    · replace h := h.2 c
      refine jw_aload_n (pc := 21) (j := 0) dX12_fault_21 rfl rfl ?_
      refine jw_getI (pc := 22) dX12_fault_22 sM_0 fl_X12_32 (by decide) rfl ?_
      refine jw_goto (pc := 25) (tgt := 29) dX12_fault_25 (by decide) ?_
      exact jw_iret (pc := 29) dX12_fault_29 rfl ⟨_, rfl, h⟩
  · replace h := h.2 c
    refine jw_aload_n (pc := 9) (j := 0) dX12_fault_9 rfl rfl ?_
    refine jw_getI (pc := 10) dX12_fault_10 sM_0 fl_X12_28 (by decide) rfl ?_
    refine jw_goto (pc := 13) (tgt := 29) dX12_fault_13 (by decide) ?_
    exact jw_iret (pc := 29) dX12_fault_29 rfl ⟨_, rfl, h⟩
set_option maxRecDepth 20000 in
theorem b_X12_readRow {x : jX} {d : Nat} {M : jM} {P : jM → Prop} {a1 : Int32} {a2 : Int32} {a3 : Int32} {a4 : Int32} 
    (h : JC x jtbM mX12_next d [.ref (x.2.2.2 0)] M (jV fun M1 => JW x jtbM mX12_readRow (d + 1) (jV P) 10 [(0, .ref (x.2.2.2 0)), (1, .int a1), (2, .int a2), (3, .int a3), (4, .int a4), (5, .int (0 : Int32)), (6, .int (1 : Int32))] [] M1)) :
    JC x jtbM mX12_readRow (d + 1) [.ref (x.2.2.2 0), .int a1, .int a2, .int a3, .int a4] M (jV P) := by
  refine JC.of rfl (Nat.le_of_ble_eq_true rfl) ?_
  refine jw_ls (ls' := [(0, .ref (x.2.2.2 0)), (1, .int a1), (2, .int a2), (3, .int a3), (4, .int a4)]) rfl ?_
  refine jw_aload_n (pc := 0) (j := 0) dX12_readRow_0 rfl rfl ?_
  refine jw_callV (pc := 1) (m2 := mX12_next) (As := []) (st := []) dX12_readRow_1 sM_0 (by decide) rfl rfl gm_X12_next ml_X12_239 rfl (Nat.le_of_ble_eq_true rfl) (JC.mono h ?_)
  clear h
  rintro M1 _ ⟨rfl, h⟩
  refine jw_st (st' := []) rfl ?_
  refine jw_iconst (pc := 4) (v := 0) dX12_readRow_4 rfl ?_
  refine jw_istore (pc := 5) (ls' := [(5, .int (0 : Int32)), (0, .ref (x.2.2.2 0)), (1, .int a1), (2, .int a2), (3, .int a3), (4, .int a4)]) dX12_readRow_5 (by decide) rfl ?_
  refine jw_iconst (pc := 7) (v := 1) dX12_readRow_7 rfl ?_
  refine jw_istore (pc := 8) (ls' := [(6, .int (1 : Int32)), (5, .int (0 : Int32)), (0, .ref (x.2.2.2 0)), (1, .int a1), (2, .int a2), (3, .int a3), (4, .int a4)]) dX12_readRow_8 (by decide) rfl ?_
  exact jw_sub [2, 3, 4, 5, 6, 1, 0] rfl h
set_option maxRecDepth 20000 in
theorem b_X12_readRow_10 {x : jX} {d : Nat} {M : jM} {P : jM → Prop} {l1 : Int32} {l2 : Int32} {l3 : Int32} {l4 : Int32} {l5 : Int32} {l6 : Int32} 
    (h : (l6 = 0 → JW x jtbM mX12_readRow (d + 1) (jV P) 135 [(0, .ref (x.2.2.2 0)), (2, .int l2), (5, .int l5)] [] M) ∧ (¬ l6 = 0 → (¬ (M.1 0 12) = 0 → JW x jtbM mX12_readRow (d + 1) (jV P) 135 [(0, .ref (x.2.2.2 0)), (2, .int l2), (5, .int l5)] [] M) ∧ ((M.1 0 12) = 0 → ((M.1 0 14) = (2 : Int32) → JW x jtbM mX12_readRow (d + 1) (jV P) 34 [(0, .ref (x.2.2.2 0)), (1, .int l1), (2, .int l2), (3, .int l3), (4, .int l4), (5, .int l5)] [] M) ∧ (¬ (M.1 0 14) = (2 : Int32) → JC x jtbM mX12_wrong d [.ref (x.2.2.2 0)] M (jV fun M1 => JW x jtbM mX12_readRow (d + 1) (jV P) 34 [(0, .ref (x.2.2.2 0)), (1, .int l1), (2, .int l2), (3, .int l3), (4, .int l4), (5, .int l5)] [] M1))))) :
    JW x jtbM mX12_readRow (d + 1) (jV P) 10 [(0, .ref (x.2.2.2 0)), (1, .int l1), (2, .int l2), (3, .int l3), (4, .int l4), (5, .int l5), (6, .int l6)] [] M := by
  refine jw_iload (pc := 10) (j := 6) dX12_readRow_10 rfl ?_
  refine jw_if_eq (pc := 12) (tgt := 135) dX12_readRow_12 (by decide) (fun c => ?_) (fun c => ?_)
  · replace h := h.1 c
    exact jw_sub [0, 2, 5] rfl h
  · replace h := h.2 c
    refine jw_aload_n (pc := 15) (j := 0) dX12_readRow_15 rfl rfl ?_
    refine jw_getI (pc := 16) dX12_readRow_16 sM_0 fl_X12_229 (by decide) rfl ?_
    refine jw_if_ne (pc := 19) (tgt := 135) dX12_readRow_19 (by decide) (fun c => ?_) (fun c => ?_)
    · replace h := h.1 c
      exact jw_sub [0, 2, 5] rfl h
    · replace h := h.2 c
      refine jw_aload_n (pc := 22) (j := 0) dX12_readRow_22 rfl rfl ?_
      refine jw_getI (pc := 23) dX12_readRow_23 sM_0 fl_X12_132 (by decide) rfl ?_
      refine jw_iconst (pc := 26) (v := 2) dX12_readRow_26 rfl ?_
      refine jw_icmp_eq (pc := 27) (tgt := 34) dX12_readRow_27 (by decide) (fun c => ?_) (fun c => ?_)
      · replace h := h.1 c
        exact jw_sub [0, 1, 2, 3, 4, 5] rfl h
      · replace h := h.2 c
        refine jw_aload_n (pc := 30) (j := 0) dX12_readRow_30 rfl rfl ?_
        refine jw_callV (pc := 31) (m2 := mX12_wrong) (As := []) (st := []) dX12_readRow_31 sM_0 (by decide) rfl rfl gm_X12_wrong ml_X12_242 rfl (Nat.le_of_ble_eq_true rfl) (JC.mono h ?_)
        clear h
        rintro M1 _ ⟨rfl, h⟩
        refine jw_st (st' := []) rfl ?_
        exact jw_sub [0, 1, 2, 3, 4, 5] rfl h
set_option maxRecDepth 20000 in
theorem b_X12_readRow_34 {x : jX} {d : Nat} {M : jM} {P : jM → Prop} {l1 : Int32} {l2 : Int32} {l3 : Int32} {l4 : Int32} {l5 : Int32} 
    (h : (¬ (M.1 0 12) = 0 → JW x jtbM mX12_readRow (d + 1) (jV P) 66 [(0, .ref (x.2.2.2 0)), (1, .int l1), (2, .int l2), (3, .int l3), (4, .int l4), (5, .int l5)] [] M) ∧ ((M.1 0 12) = 0 → JC x jtbM mX12_isIn d [.long ((M.1 0 17).toInt64), .long l3.toInt64, .long l4.toInt64] M (jZ fun M1 b1 => (b1 = true → JW x jtbM mX12_readRow (d + 1) (jV P) 66 [(0, .ref (x.2.2.2 0)), (1, .int l1), (2, .int l2), (3, .int l3), (4, .int l4), (5, .int l5)] [] M1) ∧ (b1 = false → JC x jtbM mX12_fail d [.ref (x.2.2.2 0), .int (4 : Int32), .int (M1.1 0 15)] M1 (jV fun M2 => JW x jtbM mX12_readRow (d + 1) (jV P) 66 [(0, .ref (x.2.2.2 0)), (1, .int l1), (2, .int l2), (3, .int l3), (4, .int l4), (5, .int l5)] [] M2))))) :
    JW x jtbM mX12_readRow (d + 1) (jV P) 34 [(0, .ref (x.2.2.2 0)), (1, .int l1), (2, .int l2), (3, .int l3), (4, .int l4), (5, .int l5)] [] M := by
  refine jw_aload_n (pc := 34) (j := 0) dX12_readRow_34 rfl rfl ?_
  refine jw_getI (pc := 35) dX12_readRow_35 sM_0 fl_X12_229 (by decide) rfl ?_
  refine jw_if_ne (pc := 38) (tgt := 66) dX12_readRow_38 (by decide) (fun c => ?_) (fun c => ?_)
  · replace h := h.1 c
    exact jw_sub [0, 1, 2, 3, 4, 5] rfl h
  · replace h := h.2 c
    refine jw_aload_n (pc := 41) (j := 0) dX12_readRow_41 rfl rfl ?_
    refine jw_getI (pc := 42) dX12_readRow_42 sM_0 fl_X12_151 (by decide) rfl ?_
    refine jw_i2l (pc := 45) dX12_readRow_45 ?_
    refine jw_iload_n (pc := 46) (j := 3) dX12_readRow_46 rfl rfl ?_
    refine jw_i2l (pc := 47) dX12_readRow_47 ?_
    refine jw_iload (pc := 48) (j := 4) dX12_readRow_48 rfl ?_
    refine jw_i2l (pc := 50) dX12_readRow_50 ?_
    refine jw_callS (pc := 51) (m2 := mX12_isIn) (As := [.long ((M.1 0 17).toInt64), .long l3.toInt64, .long l4.toInt64]) (st := []) dX12_readRow_51 gm_X12_isIn ml_X12_116 rfl (Nat.le_of_ble_eq_true rfl) (JC.mono h ?_)
    clear h
    rintro M1 _ ⟨b1, rfl, h⟩
    refine jw_st (st' := [.int (jb b1)]) rfl ?_
    refine jw_if_ne (pc := 54) (tgt := 66) dX12_readRow_54 (by decide) (fun c => ?_) (fun c => ?_)
    · replace h := h.1 (jb_ne c)
      exact jw_sub [0, 1, 2, 3, 4, 5] rfl h
    · replace h := h.2 ((jb_0 _).mp c)
      refine jw_aload_n (pc := 57) (j := 0) dX12_readRow_57 rfl rfl ?_
      refine jw_iconst (pc := 58) (v := 4) dX12_readRow_58 rfl ?_
      refine jw_aload_n (pc := 59) (j := 0) dX12_readRow_59 rfl rfl ?_
      refine jw_getI (pc := 60) dX12_readRow_60 sM_0 fl_X12_126 (by decide) rfl ?_
      refine jw_callV (pc := 63) (m2 := mX12_fail) (As := [.int (4 : Int32), .int (M1.1 0 15)]) (st := []) dX12_readRow_63 sM_0 (by decide) rfl rfl gm_X12_fail ml_X12_235 rfl (Nat.le_of_ble_eq_true rfl) (JC.mono h ?_)
      clear h
      rintro M2 _ ⟨rfl, h⟩
      refine jw_st (st' := []) rfl ?_
      exact jw_sub [0, 1, 2, 3, 4, 5] rfl h
set_option maxRecDepth 20000 in
theorem b_X12_readRow_66 {x : jX} {d : Nat} {M : jM} {P : jM → Prop} {l1 : Int32} {l2 : Int32} {l3 : Int32} {l4 : Int32} {l5 : Int32} 
    (h : (¬ (M.1 0 12) = 0 → JW x jtbM mX12_readRow (d + 1) (jV P) 89 [(0, .ref (x.2.2.2 0)), (1, .int l1), (2, .int l2), (3, .int l3), (4, .int l4), (5, .int l5)] [] M) ∧ ((M.1 0 12) = 0 → (¬ l5 = l2 → JW x jtbM mX12_readRow (d + 1) (jV P) 89 [(0, .ref (x.2.2.2 0)), (1, .int l1), (2, .int l2), (3, .int l3), (4, .int l4), (5, .int l5)] [] M) ∧ (l5 = l2 → JC x jtbM mX12_fail d [.ref (x.2.2.2 0), .int (6 : Int32), .int (M.1 0 15)] M (jV fun M1 => JW x jtbM mX12_readRow (d + 1) (jV P) 89 [(0, .ref (x.2.2.2 0)), (1, .int l1), (2, .int l2), (3, .int l3), (4, .int l4), (5, .int l5)] [] M1)))) :
    JW x jtbM mX12_readRow (d + 1) (jV P) 66 [(0, .ref (x.2.2.2 0)), (1, .int l1), (2, .int l2), (3, .int l3), (4, .int l4), (5, .int l5)] [] M := by
  refine jw_aload_n (pc := 66) (j := 0) dX12_readRow_66 rfl rfl ?_
  refine jw_getI (pc := 67) dX12_readRow_67 sM_0 fl_X12_229 (by decide) rfl ?_
  refine jw_if_ne (pc := 70) (tgt := 89) dX12_readRow_70 (by decide) (fun c => ?_) (fun c => ?_)
  · replace h := h.1 c
    exact jw_sub [0, 1, 2, 3, 4, 5] rfl h
  · replace h := h.2 c
    refine jw_iload (pc := 73) (j := 5) dX12_readRow_73 rfl ?_
    refine jw_iload_n (pc := 75) (j := 2) dX12_readRow_75 rfl rfl ?_
    refine jw_icmp_ne (pc := 76) (tgt := 89) dX12_readRow_76 (by decide) (fun c => ?_) (fun c => ?_)
    · replace h := h.1 c
      exact jw_sub [0, 1, 2, 3, 4, 5] rfl h
    · replace h := h.2 c
      refine jw_aload_n (pc := 79) (j := 0) dX12_readRow_79 rfl rfl ?_
      refine jw_bipush (pc := 80) (v := 6) dX12_readRow_80 rfl ?_
      refine jw_aload_n (pc := 82) (j := 0) dX12_readRow_82 rfl rfl ?_
      refine jw_getI (pc := 83) dX12_readRow_83 sM_0 fl_X12_126 (by decide) rfl ?_
      refine jw_callV (pc := 86) (m2 := mX12_fail) (As := [.int (6 : Int32), .int (M.1 0 15)]) (st := []) dX12_readRow_86 sM_0 (by decide) rfl rfl gm_X12_fail ml_X12_235 rfl (Nat.le_of_ble_eq_true rfl) (JC.mono h ?_)
      clear h
      rintro M1 _ ⟨rfl, h⟩
      refine jw_st (st' := []) rfl ?_
      exact jw_sub [0, 1, 2, 3, 4, 5] rfl h
set_option maxRecDepth 20000 in
theorem b_X12_readRow_89 {x : jX} {d : Nat} {M : jM} {P : jM → Prop} {l1 : Int32} {l2 : Int32} {l3 : Int32} {l4 : Int32} {l5 : Int32} 
    (h : ((M.1 0 12) ≤ 0 → ∃ j1, j1 < 2060 ∧ l1 + l5 = nI j1 ∧ (∀ M1, M1 = jrI M 5 (upd (M.1 5) j1 (M.1 0 17)) → JC x jtbM mX12_next d [.ref (x.2.2.2 0)] M1 (jV fun M2 => (¬ (M2.1 0 14) = (2 : Int32) → JW x jtbM mX12_readRow (d + 1) (jV P) 10 [(0, .ref (x.2.2.2 0)), (1, .int l1), (2, .int l2), (3, .int l3), (4, .int l4), (5, .int (l5 + 1)), (6, .int (0 : Int32))] [] M2) ∧ ((M2.1 0 14) = (2 : Int32) → JW x jtbM mX12_readRow (d + 1) (jV P) 10 [(0, .ref (x.2.2.2 0)), (1, .int l1), (2, .int l2), (3, .int l3), (4, .int l4), (5, .int (l5 + 1)), (6, .int (1 : Int32))] [] M2)))) ∧ (¬ (M.1 0 12) ≤ 0 → P M)) :
    JW x jtbM mX12_readRow (d + 1) (jV P) 89 [(0, .ref (x.2.2.2 0)), (1, .int l1), (2, .int l2), (3, .int l3), (4, .int l4), (5, .int l5)] [] M := by
  refine jw_aload_n (pc := 89) (j := 0) dX12_readRow_89 rfl rfl ?_
  refine jw_getI (pc := 90) dX12_readRow_90 sM_0 fl_X12_229 (by decide) rfl ?_
  refine jw_if_le (pc := 93) (tgt := 97) dX12_readRow_93 (by decide) (fun c => ?_) (fun c => ?_)
  · replace h := h.1 c
    refine jw_aload_n (pc := 97) (j := 0) dX12_readRow_97 rfl rfl ?_
    refine jw_getR (pc := 98) (r := 5) dX12_readRow_98 sM_0 fl_X12_35 (by decide) rfl rfl ?_
    refine jw_iload_n (pc := 101) (j := 1) dX12_readRow_101 rfl rfl ?_
    refine jw_iload (pc := 102) (j := 5) dX12_readRow_102 rfl ?_
    refine jw_iadd (pc := 104) dX12_readRow_104 ?_
    refine jw_aload_n (pc := 105) (j := 0) dX12_readRow_105 rfl rfl ?_
    refine jw_getI (pc := 106) dX12_readRow_106 sM_0 fl_X12_151 (by decide) rfl ?_
    obtain ⟨j1, hj1, ej1, h⟩ := h
    refine jw_iast (pc := 109) (j := j1) dX12_readRow_109 sM_5 hj1 ej1 (by decide) ?_
    replace h := h _ rfl
    generalize jrI M 5 (upd (M.1 5) j1 (M.1 0 17)) = M1 at h ⊢
    refine jw_iinc (pc := 110) (j := 5) (u := l5 + 1) (ls' := [(5, .int (l5 + 1)), (0, .ref (x.2.2.2 0)), (1, .int l1), (2, .int l2), (3, .int l3), (4, .int l4)]) dX12_readRow_110 rfl rfl (by decide) rfl ?_
    refine jw_aload_n (pc := 113) (j := 1) dX12_readRow_113 rfl rfl ?_
    refine jw_callV (pc := 114) (m2 := mX12_next) (As := []) (st := []) dX12_readRow_114 sM_0 (by decide) rfl rfl gm_X12_next ml_X12_239 rfl (Nat.le_of_ble_eq_true rfl) (JC.mono h ?_)
    clear h
    rintro M2 _ ⟨rfl, h⟩
    refine jw_st (st' := []) rfl ?_
    refine jw_aload_n (pc := 117) (j := 1) dX12_readRow_117 rfl rfl ?_
    refine jw_getI (pc := 118) dX12_readRow_118 sM_0 fl_X12_132 (by decide) rfl ?_
    refine jw_iconst (pc := 121) (v := 2) dX12_readRow_121 rfl ?_
    refine jw_icmp_ne (pc := 122) (tgt := 129) dX12_readRow_122 (by decide) (fun c => ?_) (fun c => ?_)
    · replace h := h.1 c
      refine jw_iconst (pc := 129) (v := 0) dX12_readRow_129 rfl ?_
      refine jw_istore (pc := 130) (ls' := [(6, .int (0 : Int32)), (5, .int (l5 + 1)), (0, .ref (x.2.2.2 0)), (1, .int l1), (2, .int l2), (3, .int l3), (4, .int l4)]) dX12_readRow_130 (by decide) rfl ?_
      refine jw_goto (pc := 132) (tgt := 10) dX12_readRow_132 (by decide) ?_
      exact jw_sub [2, 3, 4, 5, 6, 1, 0] rfl h
    · replace h := h.2 c
      refine jw_iconst (pc := 125) (v := 1) dX12_readRow_125 rfl ?_
      refine jw_goto (pc := 126) (tgt := 130) dX12_readRow_126 (by decide) ?_
      refine jw_istore (pc := 130) (ls' := [(6, .int (1 : Int32)), (5, .int (l5 + 1)), (0, .ref (x.2.2.2 0)), (1, .int l1), (2, .int l2), (3, .int l3), (4, .int l4)]) dX12_readRow_130 (by decide) rfl ?_
      refine jw_goto (pc := 132) (tgt := 10) dX12_readRow_132 (by decide) ?_
      exact jw_sub [2, 3, 4, 5, 6, 1, 0] rfl h
  · replace h := h.2 c
    exact jw_vret (pc := 96) dX12_readRow_96 rfl ⟨rfl, h⟩
set_option maxRecDepth 20000 in
theorem b_X12_readRow_135 {x : jX} {d : Nat} {M : jM} {P : jM → Prop} {l2 : Int32} {l5 : Int32} 
    (h : (¬ (M.1 0 12) = 0 → P M) ∧ ((M.1 0 12) = 0 → JC x jtbM mX12_isSign d [.ref (x.2.2.2 0), .int (59 : Int32)] M (jZ fun M1 b1 => (b1 = false → P M1) ∧ (b1 = true → (l2 ≤ l5 → P M1) ∧ (¬ l2 ≤ l5 → JC x jtbM mX12_fail d [.ref (x.2.2.2 0), .int (7 : Int32), .int (M1.1 0 15)] M1 (jV fun M2 => P M2)))))) :
    JW x jtbM mX12_readRow (d + 1) (jV P) 135 [(0, .ref (x.2.2.2 0)), (2, .int l2), (5, .int l5)] [] M := by
  refine jw_aload_n (pc := 135) (j := 0) dX12_readRow_135 rfl rfl ?_
  refine jw_getI (pc := 136) dX12_readRow_136 sM_0 fl_X12_229 (by decide) rfl ?_
  refine jw_if_ne (pc := 139) (tgt := 167) dX12_readRow_139 (by decide) (fun c => ?_) (fun c => ?_)
  · replace h := h.1 c
    exact jw_vret (pc := 167) dX12_readRow_167 rfl ⟨rfl, h⟩
  · replace h := h.2 c
    refine jw_aload_n (pc := 142) (j := 0) dX12_readRow_142 rfl rfl ?_
    refine jw_bipush (pc := 143) (v := 59) dX12_readRow_143 rfl ?_
    refine jw_callV (pc := 145) (m2 := mX12_isSign) (As := [.int (59 : Int32)]) (st := []) dX12_readRow_145 sM_0 (by decide) rfl rfl gm_X12_isSign ml_X12_252 rfl (Nat.le_of_ble_eq_true rfl) (JC.mono h ?_)
    clear h
    rintro M1 _ ⟨b1, rfl, h⟩
    refine jw_st (st' := [.int (jb b1)]) rfl ?_
    refine jw_if_eq (pc := 148) (tgt := 167) dX12_readRow_148 (by decide) (fun c => ?_) (fun c => ?_)
    · replace h := h.1 ((jb_0 _).mp c)
      exact jw_vret (pc := 167) dX12_readRow_167 rfl ⟨rfl, h⟩
    · replace h := h.2 (jb_ne c)
      refine jw_iload (pc := 151) (j := 2) dX12_readRow_151 rfl ?_
      refine jw_iload_n (pc := 153) (j := 1) dX12_readRow_153 rfl rfl ?_
      refine jw_icmp_ge (pc := 154) (tgt := 167) dX12_readRow_154 (by decide) (fun c => ?_) (fun c => ?_)
      · replace h := h.1 c
        exact jw_vret (pc := 167) dX12_readRow_167 rfl ⟨rfl, h⟩
      · replace h := h.2 c
        refine jw_aload_n (pc := 157) (j := 0) dX12_readRow_157 rfl rfl ?_
        refine jw_bipush (pc := 158) (v := 7) dX12_readRow_158 rfl ?_
        refine jw_aload_n (pc := 160) (j := 0) dX12_readRow_160 rfl rfl ?_
        refine jw_getI (pc := 161) dX12_readRow_161 sM_0 fl_X12_126 (by decide) rfl ?_
        refine jw_callV (pc := 164) (m2 := mX12_fail) (As := [.int (7 : Int32), .int (M1.1 0 15)]) (st := []) dX12_readRow_164 sM_0 (by decide) rfl rfl gm_X12_fail ml_X12_235 rfl (Nat.le_of_ble_eq_true rfl) (JC.mono h ?_)
        clear h
        rintro M2 _ ⟨rfl, h⟩
        refine jw_st (st' := []) rfl ?_
        exact jw_vret (pc := 167) dX12_readRow_167 rfl ⟨rfl, h⟩
set_option maxRecDepth 20000 in
theorem b_X12_readCells {x : jX} {d : Nat} {M : jM} {P : jM → Int32 → Prop} {a1 : Int32} {a2 : Int32} {a3 : Int32} {a4 : Int32} 
    (h : (¬ a2 = (M.1 5 1649) → JW x jtbM mX12_readCells (d + 1) (jI P) 22 [(0, .ref (x.2.2.2 0)), (1, .int a1), (2, .int a2), (3, .int a3), (4, .int a4)] [] M) ∧ (a2 = (M.1 5 1649) → JC x jtbM mX12_fail d [.ref (x.2.2.2 0), .int (6 : Int32), .int (M.1 0 15)] M (jV fun M1 => JW x jtbM mX12_readCells (d + 1) (jI P) 22 [(0, .ref (x.2.2.2 0)), (1, .int a1), (2, .int a2), (3, .int a3), (4, .int a4)] [] M1))) :
    JC x jtbM mX12_readCells (d + 1) [.ref (x.2.2.2 0), .int a1, .int a2, .int a3, .int a4] M (jI P) := by
  refine JC.of rfl (Nat.le_of_ble_eq_true rfl) ?_
  refine jw_ls (ls' := [(0, .ref (x.2.2.2 0)), (1, .int a1), (2, .int a2), (3, .int a3), (4, .int a4)]) rfl ?_
  refine jw_iload_n (pc := 0) (j := 2) dX12_readCells_0 rfl rfl ?_
  refine jw_aload_n (pc := 1) (j := 0) dX12_readCells_1 rfl rfl ?_
  refine jw_getR (pc := 2) (r := 5) dX12_readCells_2 sM_0 fl_X12_35 (by decide) rfl rfl ?_
  refine jw_sipush (pc := 5) (v := 1649) dX12_readCells_5 rfl ?_
  refine jw_iald (pc := 8) (j := 1649) dX12_readCells_8 sM_5 (by decide) rfl (by decide) ?_
  refine jw_icmp_ne (pc := 9) (tgt := 22) dX12_readCells_9 (by decide) (fun c => ?_) (fun c => ?_)
  · replace h := h.1 c
    exact jw_sub [0, 1, 2, 3, 4] rfl h
  · replace h := h.2 c
    refine jw_aload_n (pc := 12) (j := 0) dX12_readCells_12 rfl rfl ?_
    refine jw_bipush (pc := 13) (v := 6) dX12_readCells_13 rfl ?_
    refine jw_aload_n (pc := 15) (j := 0) dX12_readCells_15 rfl rfl ?_
    refine jw_getI (pc := 16) dX12_readCells_16 sM_0 fl_X12_126 (by decide) rfl ?_
    refine jw_callV (pc := 19) (m2 := mX12_fail) (As := [.int (6 : Int32), .int (M.1 0 15)]) (st := []) dX12_readCells_19 sM_0 (by decide) rfl rfl gm_X12_fail ml_X12_235 rfl (Nat.le_of_ble_eq_true rfl) (JC.mono h ?_)
    clear h
    rintro M1 _ ⟨rfl, h⟩
    refine jw_st (st' := []) rfl ?_
    exact jw_sub [0, 1, 2, 3, 4] rfl h
set_option maxRecDepth 20000 in
theorem b_X12_readCells_22 {x : jX} {d : Nat} {M : jM} {P : jM → Int32 → Prop} {l1 : Int32} {l2 : Int32} {l3 : Int32} {l4 : Int32} 
    (h : ((M.1 0 12) ≤ 0 → JC x jtbM mX12_readRow d [.ref (x.2.2.2 0), .int (l1 + ((M.1 5 1648) * l2)), .int (M.1 5 1648), .int l3, .int l4] M (jV fun M1 => P M1 (l2 + (1 : Int32)))) ∧ (¬ (M.1 0 12) ≤ 0 → P M l2)) :
    JW x jtbM mX12_readCells (d + 1) (jI P) 22 [(0, .ref (x.2.2.2 0)), (1, .int l1), (2, .int l2), (3, .int l3), (4, .int l4)] [] M := by
  refine jw_aload_n (pc := 22) (j := 0) dX12_readCells_22 rfl rfl ?_
  refine jw_getI (pc := 23) dX12_readCells_23 sM_0 fl_X12_229 (by decide) rfl ?_
  refine jw_if_le (pc := 26) (tgt := 31) dX12_readCells_26 (by decide) (fun c => ?_) (fun c => ?_)
  · replace h := h.1 c
    refine jw_aload_n (pc := 31) (j := 0) dX12_readCells_31 rfl rfl ?_
    refine jw_iload_n (pc := 32) (j := 1) dX12_readCells_32 rfl rfl ?_
    refine jw_aload_n (pc := 33) (j := 0) dX12_readCells_33 rfl rfl ?_
    refine jw_getR (pc := 34) (r := 5) dX12_readCells_34 sM_0 fl_X12_35 (by decide) rfl rfl ?_
    refine jw_sipush (pc := 37) (v := 1648) dX12_readCells_37 rfl ?_
    refine jw_iald (pc := 40) (j := 1648) dX12_readCells_40 sM_5 (by decide) rfl (by decide) ?_
    refine jw_iload_n (pc := 41) (j := 2) dX12_readCells_41 rfl rfl ?_
    refine jw_imul (pc := 42) dX12_readCells_42 ?_
    refine jw_iadd (pc := 43) dX12_readCells_43 ?_
    refine jw_aload_n (pc := 44) (j := 0) dX12_readCells_44 rfl rfl ?_
    refine jw_getR (pc := 45) (r := 5) dX12_readCells_45 sM_0 fl_X12_35 (by decide) rfl rfl ?_
    refine jw_sipush (pc := 48) (v := 1648) dX12_readCells_48 rfl ?_
    refine jw_iald (pc := 51) (j := 1648) dX12_readCells_51 sM_5 (by decide) rfl (by decide) ?_
    refine jw_iload_n (pc := 52) (j := 3) dX12_readCells_52 rfl rfl ?_
    refine jw_iload (pc := 53) (j := 4) dX12_readCells_53 rfl ?_
    refine jw_callV (pc := 55) (m2 := mX12_readRow) (As := [.int (l1 + ((M.1 5 1648) * l2)), .int (M.1 5 1648), .int l3, .int l4]) (st := []) dX12_readCells_55 sM_0 (by decide) rfl rfl gm_X12_readRow ml_X12_255 rfl (Nat.le_of_ble_eq_true rfl) (JC.mono h ?_)
    clear h
    rintro M1 _ ⟨rfl, h⟩
    refine jw_st (st' := []) rfl ?_
    refine jw_iload_n (pc := 58) (j := 2) dX12_readCells_58 rfl rfl ?_
    refine jw_iconst (pc := 59) (v := 1) dX12_readCells_59 rfl ?_
    refine jw_iadd (pc := 60) dX12_readCells_60 ?_
    exact jw_iret (pc := 61) dX12_readCells_61 rfl ⟨_, rfl, h⟩
  · replace h := h.2 c
    refine jw_iload_n (pc := 29) (j := 2) dX12_readCells_29 rfl rfl ?_
    exact jw_iret (pc := 30) dX12_readCells_30 rfl ⟨_, rfl, h⟩
set_option maxRecDepth 20000 in
theorem b_X12_named {x : jX} {d : Nat} {M : jM} {P : jM → Int32 → Prop} {a1 : Int32} {a2 : Int32} 
    (h : JW x jtbM mX12_named d (jI P) 2 [(0, .ref (x.2.2.2 0)), (1, .int a1), (2, .int a2), (3, .int (0 : Int32))] [] M) :
    JC x jtbM mX12_named d [.ref (x.2.2.2 0), .int a1, .int a2] M (jI P) := by
  refine JC.of rfl (Nat.le_of_ble_eq_true rfl) ?_
  refine jw_ls (ls' := [(0, .ref (x.2.2.2 0)), (1, .int a1), (2, .int a2)]) rfl ?_
  refine jw_iconst (pc := 0) (v := 0) dX12_named_0 rfl ?_
  refine jw_istore_n (pc := 1) (ls' := [(3, .int (0 : Int32)), (0, .ref (x.2.2.2 0)), (1, .int a1), (2, .int a2)]) dX12_named_1 rfl (by decide) rfl ?_
  exact jw_sub [1, 2, 3, 0] rfl h
set_option maxRecDepth 20000 in
theorem b_X12_named_2 {x : jX} {d : Nat} {M : jM} {P : jM → Int32 → Prop} {l1 : Int32} {l2 : Int32} {l3 : Int32} 
    (h : (l2 ≤ l3 → P M (-1 : Int32)) ∧ (¬ l2 ≤ l3 → ∃ j1, j1 < 30 ∧ ((6 : Int32) * l1) + l3 = nI j1 ∧ ((¬ (M.2 6 j1) = (M.2 0 22) → JW x jtbM mX12_named d (jI P) 2 [(0, .ref (x.2.2.2 0)), (1, .int l1), (2, .int l2), (3, .int (l3 + 1))] [] M) ∧ ((M.2 6 j1) = (M.2 0 22) → P M l3)))) :
    JW x jtbM mX12_named d (jI P) 2 [(0, .ref (x.2.2.2 0)), (1, .int l1), (2, .int l2), (3, .int l3)] [] M := by
  refine jw_iload_n (pc := 2) (j := 3) dX12_named_2 rfl rfl ?_
  refine jw_iload_n (pc := 3) (j := 2) dX12_named_3 rfl rfl ?_
  refine jw_icmp_ge (pc := 4) (tgt := 34) dX12_named_4 (by decide) (fun c => ?_) (fun c => ?_)
  · replace h := h.1 c
    refine jw_iconst (pc := 34) (v := (-1)) dX12_named_34 rfl ?_
    exact jw_iret (pc := 35) dX12_named_35 rfl ⟨_, rfl, h⟩
  · replace h := h.2 c
    refine jw_aload_n (pc := 7) (j := 0) dX12_named_7 rfl rfl ?_
    refine jw_getR (pc := 8) (r := 6) dX12_named_8 sM_0 fl_X12_38 (by decide) rfl rfl ?_
    refine jw_bipush (pc := 11) (v := 6) dX12_named_11 rfl ?_
    refine jw_iload_n (pc := 13) (j := 1) dX12_named_13 rfl rfl ?_
    refine jw_imul (pc := 14) dX12_named_14 ?_
    refine jw_iload_n (pc := 15) (j := 3) dX12_named_15 rfl rfl ?_
    refine jw_iadd (pc := 16) dX12_named_16 ?_
    obtain ⟨j1, hj1, ej1, h⟩ := h
    refine jw_lald (pc := 17) (j := j1) dX12_named_17 sM_6 hj1 ej1 (by decide) ?_
    refine jw_aload_n (pc := 18) (j := 0) dX12_named_18 rfl rfl ?_
    refine jw_getL (pc := 19) dX12_named_19 sM_0 fl_X12_138 (by decide) rfl ?_
    refine jw_lcmp (pc := 22) dX12_named_22 ?_
    refine jw_if_ne (pc := 23) (tgt := 28) dX12_named_23 (by decide) (fun c => ?_) (fun c => ?_)
    · replace h := h.1 (fun z => c ((jcmp_eq _ _).mpr z))
      refine jw_iinc (pc := 28) (j := 3) (u := l3 + 1) (ls' := [(3, .int (l3 + 1)), (0, .ref (x.2.2.2 0)), (1, .int l1), (2, .int l2)]) dX12_named_28 rfl rfl (by decide) rfl ?_
      refine jw_goto (pc := 31) (tgt := 2) dX12_named_31 (by decide) ?_
      exact jw_sub [1, 2, 3, 0] rfl h
    · replace h := h.2 ((jcmp_eq _ _).mp c)
      refine jw_iload_n (pc := 26) (j := 3) dX12_named_26 rfl rfl ?_
      exact jw_iret (pc := 27) dX12_named_27 rfl ⟨_, rfl, h⟩
set_option maxRecDepth 20000 in
theorem b_X12_stripsOf {x : jX} {d : Nat} {M : jM} {P : jM → Int32 → Prop} {a1 : Int32} {a2 : Int32} {a3 : Int32} 
    (h : (¬ (a1 - a1 / (2 : Int32) * (2 : Int32)) = (1 : Int32) → (¬ (a1 - a1 / (4 : Int32) * (4 : Int32)) = 0 → P M a3) ∧ ((a1 - a1 / (4 : Int32) * (4 : Int32)) = 0 → P M a2)) ∧ ((a1 - a1 / (2 : Int32) * (2 : Int32)) = (1 : Int32) → P M ((a2 + a3) - (1 : Int32)))) :
    JC x jtbM mX12_stripsOf d [.ref (x.2.2.2 0), .int a1, .int a2, .int a3] M (jI P) := by
  refine JC.of rfl (Nat.le_of_ble_eq_true rfl) ?_
  refine jw_ls (ls' := [(0, .ref (x.2.2.2 0)), (1, .int a1), (2, .int a2), (3, .int a3)]) rfl ?_
  refine jw_iload_n (pc := 0) (j := 1) dX12_stripsOf_0 rfl rfl ?_
  refine jw_iconst (pc := 1) (v := 2) dX12_stripsOf_1 rfl ?_
  refine jw_irem (pc := 2) dX12_stripsOf_2 (by decide) ?_
  refine jw_iconst (pc := 3) (v := 1) dX12_stripsOf_3 rfl ?_
  refine jw_icmp_ne (pc := 4) (tgt := 15) dX12_stripsOf_4 (by decide) (fun c => ?_) (fun c => ?_)
  · replace h := h.1 c
    refine jw_iload_n (pc := 15) (j := 1) dX12_stripsOf_15 rfl rfl ?_
    refine jw_iconst (pc := 16) (v := 4) dX12_stripsOf_16 rfl ?_
    refine jw_irem (pc := 17) dX12_stripsOf_17 (by decide) ?_
    refine jw_if_ne (pc := 18) (tgt := 25) dX12_stripsOf_18 (by decide) (fun c => ?_) (fun c => ?_)
    · replace h := h.1 c
      refine jw_iload_n (pc := 25) (j := 3) dX12_stripsOf_25 rfl rfl ?_
      exact jw_iret (pc := 26) dX12_stripsOf_26 rfl ⟨_, rfl, h⟩
    · replace h := h.2 c
      refine jw_iload_n (pc := 21) (j := 2) dX12_stripsOf_21 rfl rfl ?_
      refine jw_goto (pc := 22) (tgt := 26) dX12_stripsOf_22 (by decide) ?_
      exact jw_iret (pc := 26) dX12_stripsOf_26 rfl ⟨_, rfl, h⟩
  · replace h := h.2 c
    refine jw_iload_n (pc := 7) (j := 2) dX12_stripsOf_7 rfl rfl ?_
    refine jw_iload_n (pc := 8) (j := 3) dX12_stripsOf_8 rfl rfl ?_
    refine jw_iadd (pc := 9) dX12_stripsOf_9 ?_
    refine jw_iconst (pc := 10) (v := 1) dX12_stripsOf_10 rfl ?_
    refine jw_isub (pc := 11) dX12_stripsOf_11 ?_
    refine jw_goto (pc := 12) (tgt := 26) dX12_stripsOf_12 (by decide) ?_
    exact jw_iret (pc := 26) dX12_stripsOf_26 rfl ⟨_, rfl, h⟩
set_option maxRecDepth 20000 in
theorem b_X12_readVillage {x : jX} {d : Nat} {M : jM} {P : jM → Prop}  
    (h : (¬ (M.1 5 1650) = (6 : Int32) → JW x jtbM mX12_readVillage (d + 1) (jV P) 25 [(0, .ref (x.2.2.2 0)), (1, .int (M.1 5 1650))] [] M) ∧ ((M.1 5 1650) = (6 : Int32) → JC x jtbM mX12_fail d [.ref (x.2.2.2 0), .int (6 : Int32), .int (M.1 0 15)] M (jV fun M1 => JW x jtbM mX12_readVillage (d + 1) (jV P) 25 [(0, .ref (x.2.2.2 0)), (1, .int (M.1 5 1650))] [] M1))) :
    JC x jtbM mX12_readVillage (d + 1) [.ref (x.2.2.2 0)] M (jV P) := by
  refine JC.of rfl (Nat.le_of_ble_eq_true rfl) ?_
  refine jw_ls (ls' := [(0, .ref (x.2.2.2 0))]) rfl ?_
  refine jw_aload_n (pc := 0) (j := 0) dX12_readVillage_0 rfl rfl ?_
  refine jw_getR (pc := 1) (r := 5) dX12_readVillage_1 sM_0 fl_X12_35 (by decide) rfl rfl ?_
  refine jw_sipush (pc := 4) (v := 1650) dX12_readVillage_4 rfl ?_
  refine jw_iald (pc := 7) (j := 1650) dX12_readVillage_7 sM_5 (by decide) rfl (by decide) ?_
  refine jw_istore_n (pc := 8) (ls' := [(1, .int (M.1 5 1650)), (0, .ref (x.2.2.2 0))]) dX12_readVillage_8 rfl (by decide) rfl ?_
  refine jw_iload_n (pc := 9) (j := 0) dX12_readVillage_9 rfl rfl ?_
  refine jw_bipush (pc := 10) (v := 6) dX12_readVillage_10 rfl ?_
  refine jw_icmp_ne (pc := 12) (tgt := 25) dX12_readVillage_12 (by decide) (fun c => ?_) (fun c => ?_)
  · replace h := h.1 c
    exact jw_sub [1, 0] rfl h
  · replace h := h.2 c
    refine jw_aload_n (pc := 15) (j := 1) dX12_readVillage_15 rfl rfl ?_
    refine jw_bipush (pc := 16) (v := 6) dX12_readVillage_16 rfl ?_
    refine jw_aload_n (pc := 18) (j := 1) dX12_readVillage_18 rfl rfl ?_
    refine jw_getI (pc := 19) dX12_readVillage_19 sM_0 fl_X12_126 (by decide) rfl ?_
    refine jw_callV (pc := 22) (m2 := mX12_fail) (As := [.int (6 : Int32), .int (M.1 0 15)]) (st := []) dX12_readVillage_22 sM_0 (by decide) rfl rfl gm_X12_fail ml_X12_235 rfl (Nat.le_of_ble_eq_true rfl) (JC.mono h ?_)
    clear h
    rintro M1 _ ⟨rfl, h⟩
    refine jw_st (st' := []) rfl ?_
    exact jw_sub [1, 0] rfl h
set_option maxRecDepth 20000 in
theorem b_X12_readVillage_25 {x : jX} {d : Nat} {M : jM} {P : jM → Prop} {l1 : Int32} 
    (h : ((M.1 0 12) ≤ 0 → JC x jtbM mX12_next d [.ref (x.2.2.2 0)] M (jV fun M1 => JC x jtbM mX12_isName d [.ref (x.2.2.2 0)] M1 (jZ fun M2 b1 => (b1 = true → JW x jtbM mX12_readVillage (d + 1) (jV P) 48 [(0, .ref (x.2.2.2 0)), (1, .int l1)] [] M2) ∧ (b1 = false → JC x jtbM mX12_wrong d [.ref (x.2.2.2 0)] M2 (jV fun M3 => JW x jtbM mX12_readVillage (d + 1) (jV P) 48 [(0, .ref (x.2.2.2 0)), (1, .int l1)] [] M3))))) ∧ (¬ (M.1 0 12) ≤ 0 → P M)) :
    JW x jtbM mX12_readVillage (d + 1) (jV P) 25 [(0, .ref (x.2.2.2 0)), (1, .int l1)] [] M := by
  refine jw_aload_n (pc := 25) (j := 0) dX12_readVillage_25 rfl rfl ?_
  refine jw_getI (pc := 26) dX12_readVillage_26 sM_0 fl_X12_229 (by decide) rfl ?_
  refine jw_if_le (pc := 29) (tgt := 33) dX12_readVillage_29 (by decide) (fun c => ?_) (fun c => ?_)
  · replace h := h.1 c
    refine jw_aload_n (pc := 33) (j := 0) dX12_readVillage_33 rfl rfl ?_
    refine jw_callV (pc := 34) (m2 := mX12_next) (As := []) (st := []) dX12_readVillage_34 sM_0 (by decide) rfl rfl gm_X12_next ml_X12_239 rfl (Nat.le_of_ble_eq_true rfl) (JC.mono h ?_)
    clear h
    rintro M1 _ ⟨rfl, h⟩
    refine jw_st (st' := []) rfl ?_
    refine jw_aload_n (pc := 37) (j := 0) dX12_readVillage_37 rfl rfl ?_
    refine jw_callV (pc := 38) (m2 := mX12_isName) (As := []) (st := []) dX12_readVillage_38 sM_0 (by decide) rfl rfl gm_X12_isName ml_X12_259 rfl (Nat.le_of_ble_eq_true rfl) (JC.mono h ?_)
    clear h
    rintro M2 _ ⟨b1, rfl, h⟩
    refine jw_st (st' := [.int (jb b1)]) rfl ?_
    refine jw_if_ne (pc := 41) (tgt := 48) dX12_readVillage_41 (by decide) (fun c => ?_) (fun c => ?_)
    · replace h := h.1 (jb_ne c)
      exact jw_sub [0, 1] rfl h
    · replace h := h.2 ((jb_0 _).mp c)
      refine jw_aload_n (pc := 44) (j := 0) dX12_readVillage_44 rfl rfl ?_
      refine jw_callV (pc := 45) (m2 := mX12_wrong) (As := []) (st := []) dX12_readVillage_45 sM_0 (by decide) rfl rfl gm_X12_wrong ml_X12_242 rfl (Nat.le_of_ble_eq_true rfl) (JC.mono h ?_)
      clear h
      rintro M3 _ ⟨rfl, h⟩
      refine jw_st (st' := []) rfl ?_
      exact jw_sub [0, 1] rfl h
  · replace h := h.2 c
    exact jw_vret (pc := 32) dX12_readVillage_32 rfl ⟨rfl, h⟩
set_option maxRecDepth 20000 in
theorem b_X12_readVillage_48 {x : jX} {d : Nat} {M : jM} {P : jM → Prop} {l1 : Int32} 
    (h : (¬ (M.1 0 12) = 0 → JW x jtbM mX12_readVillage (d + 1) (jV P) 73 [(0, .ref (x.2.2.2 0)), (1, .int l1)] [] M) ∧ ((M.1 0 12) = 0 → JC x jtbM mX12_named d [.ref (x.2.2.2 0), .int (4 : Int32), .int l1] M (jI fun M1 r1 => (r1 < 0 → JW x jtbM mX12_readVillage (d + 1) (jV P) 73 [(0, .ref (x.2.2.2 0)), (1, .int l1)] [] M1) ∧ (¬ r1 < 0 → JC x jtbM mX12_fail d [.ref (x.2.2.2 0), .int (3 : Int32), .int (M1.1 0 15)] M1 (jV fun M2 => JW x jtbM mX12_readVillage (d + 1) (jV P) 73 [(0, .ref (x.2.2.2 0)), (1, .int l1)] [] M2))))) :
    JW x jtbM mX12_readVillage (d + 1) (jV P) 48 [(0, .ref (x.2.2.2 0)), (1, .int l1)] [] M := by
  refine jw_aload_n (pc := 48) (j := 0) dX12_readVillage_48 rfl rfl ?_
  refine jw_getI (pc := 49) dX12_readVillage_49 sM_0 fl_X12_229 (by decide) rfl ?_
  refine jw_if_ne (pc := 52) (tgt := 73) dX12_readVillage_52 (by decide) (fun c => ?_) (fun c => ?_)
  · replace h := h.1 c
    exact jw_sub [0, 1] rfl h
  · replace h := h.2 c
    refine jw_aload_n (pc := 55) (j := 0) dX12_readVillage_55 rfl rfl ?_
    refine jw_iconst (pc := 56) (v := 4) dX12_readVillage_56 rfl ?_
    refine jw_iload_n (pc := 57) (j := 1) dX12_readVillage_57 rfl rfl ?_
    refine jw_callV (pc := 58) (m2 := mX12_named) (As := [.int (4 : Int32), .int l1]) (st := []) dX12_readVillage_58 sM_0 (by decide) rfl rfl gm_X12_named ml_X12_262 rfl (Nat.le_of_ble_eq_true rfl) (JC.mono h ?_)
    clear h
    rintro M1 _ ⟨r1, rfl, h⟩
    refine jw_st (st' := [.int r1]) rfl ?_
    refine jw_if_lt (pc := 61) (tgt := 73) dX12_readVillage_61 (by decide) (fun c => ?_) (fun c => ?_)
    · replace h := h.1 c
      exact jw_sub [0, 1] rfl h
    · replace h := h.2 c
      refine jw_aload_n (pc := 64) (j := 0) dX12_readVillage_64 rfl rfl ?_
      refine jw_iconst (pc := 65) (v := 3) dX12_readVillage_65 rfl ?_
      refine jw_aload_n (pc := 66) (j := 0) dX12_readVillage_66 rfl rfl ?_
      refine jw_getI (pc := 67) dX12_readVillage_67 sM_0 fl_X12_126 (by decide) rfl ?_
      refine jw_callV (pc := 70) (m2 := mX12_fail) (As := [.int (3 : Int32), .int (M1.1 0 15)]) (st := []) dX12_readVillage_70 sM_0 (by decide) rfl rfl gm_X12_fail ml_X12_235 rfl (Nat.le_of_ble_eq_true rfl) (JC.mono h ?_)
      clear h
      rintro M2 _ ⟨rfl, h⟩
      refine jw_st (st' := []) rfl ?_
      exact jw_sub [0, 1] rfl h
set_option maxRecDepth 20000 in
theorem b_X12_readVillage_73 {x : jX} {d : Nat} {M : jM} {P : jM → Prop} {l1 : Int32} 
    (h : ((M.1 0 12) ≤ 0 → ∃ j1, j1 < 30 ∧ (24 : Int32) + l1 = nI j1 ∧ (∀ M1, M1 = jrL M 6 (vp_updL (M.2 6) j1 (M.2 0 22)) → JC x jtbM mX12_next d [.ref (x.2.2.2 0)] M1 (jV fun M2 => JC x jtbM mX12_sideWord d [.ref (x.2.2.2 0)] M2 (jI fun M3 r1 => (r1 < 0 → JW x jtbM mX12_readVillage (d + 1) (jV P) 113 [(0, .ref (x.2.2.2 0)), (1, .int l1), (2, .int r1)] [.int (0 : Int32), .ref (x.2.2.2 0)] M3) ∧ (¬ r1 < 0 → JW x jtbM mX12_readVillage (d + 1) (jV P) 113 [(0, .ref (x.2.2.2 0)), (1, .int l1), (2, .int r1)] [.int (1 : Int32), .ref (x.2.2.2 0)] M3))))) ∧ (¬ (M.1 0 12) ≤ 0 → P M)) :
    JW x jtbM mX12_readVillage (d + 1) (jV P) 73 [(0, .ref (x.2.2.2 0)), (1, .int l1)] [] M := by
  refine jw_aload_n (pc := 73) (j := 0) dX12_readVillage_73 rfl rfl ?_
  refine jw_getI (pc := 74) dX12_readVillage_74 sM_0 fl_X12_229 (by decide) rfl ?_
  refine jw_if_le (pc := 77) (tgt := 81) dX12_readVillage_77 (by decide) (fun c => ?_) (fun c => ?_)
  · replace h := h.1 c
    refine jw_aload_n (pc := 81) (j := 0) dX12_readVillage_81 rfl rfl ?_
    refine jw_getR (pc := 82) (r := 6) dX12_readVillage_82 sM_0 fl_X12_38 (by decide) rfl rfl ?_
    refine jw_bipush (pc := 85) (v := 24) dX12_readVillage_85 rfl ?_
    refine jw_iload_n (pc := 87) (j := 1) dX12_readVillage_87 rfl rfl ?_
    refine jw_iadd (pc := 88) dX12_readVillage_88 ?_
    refine jw_aload_n (pc := 89) (j := 0) dX12_readVillage_89 rfl rfl ?_
    refine jw_getL (pc := 90) dX12_readVillage_90 sM_0 fl_X12_138 (by decide) rfl ?_
    obtain ⟨j1, hj1, ej1, h⟩ := h
    refine jw_last (pc := 93) (j := j1) dX12_readVillage_93 sM_6 hj1 ej1 (by decide) ?_
    replace h := h _ rfl
    generalize jrL M 6 (vp_updL (M.2 6) j1 (M.2 0 22)) = M1 at h ⊢
    refine jw_aload_n (pc := 94) (j := 0) dX12_readVillage_94 rfl rfl ?_
    refine jw_callV (pc := 95) (m2 := mX12_next) (As := []) (st := []) dX12_readVillage_95 sM_0 (by decide) rfl rfl gm_X12_next ml_X12_239 rfl (Nat.le_of_ble_eq_true rfl) (JC.mono h ?_)
    clear h
    rintro M2 _ ⟨rfl, h⟩
    refine jw_st (st' := []) rfl ?_
    refine jw_aload_n (pc := 98) (j := 0) dX12_readVillage_98 rfl rfl ?_
    refine jw_callV (pc := 99) (m2 := mX12_sideWord) (As := []) (st := []) dX12_readVillage_99 sM_0 (by decide) rfl rfl gm_X12_sideWord ml_X12_167 rfl (Nat.le_of_ble_eq_true rfl) (JC.mono h ?_)
    clear h
    rintro M3 _ ⟨r1, rfl, h⟩
    refine jw_st (st' := [.int r1]) rfl ?_
    refine jw_istore_n (pc := 102) (ls' := [(2, .int r1), (0, .ref (x.2.2.2 0)), (1, .int l1)]) dX12_readVillage_102 rfl (by decide) rfl ?_
    refine jw_aload_n (pc := 103) (j := 1) dX12_readVillage_103 rfl rfl ?_
    refine jw_iload_n (pc := 104) (j := 0) dX12_readVillage_104 rfl rfl ?_
    refine jw_if_lt (pc := 105) (tgt := 112) dX12_readVillage_105 (by decide) (fun c => ?_) (fun c => ?_)
    · replace h := h.1 c
      refine jw_iconst (pc := 112) (v := 0) dX12_readVillage_112 rfl ?_
      exact jw_sub [1, 2, 0] rfl h
    · replace h := h.2 c
      refine jw_iconst (pc := 108) (v := 1) dX12_readVillage_108 rfl ?_
      refine jw_goto (pc := 109) (tgt := 113) dX12_readVillage_109 (by decide) ?_
      exact jw_sub [1, 2, 0] rfl h
  · replace h := h.2 c
    exact jw_vret (pc := 80) dX12_readVillage_80 rfl ⟨rfl, h⟩
set_option maxRecDepth 20000 in
theorem b_X12_readVillage_113 {x : jX} {d : Nat} {M : jM} {P : jM → Prop} {l1 : Int32} {l2 : Int32} {k0 : Int32} 
    (h : JC x jtbM mX12_must d [.ref (x.2.2.2 0), .int k0] M (jV fun M1 => ((M1.1 0 12) ≤ 0 → ∃ j1, j1 < 2060 ∧ (1726 : Int32) + l1 = nI j1 ∧ (∀ M2, M2 = jrI M1 5 (upd (M1.1 5) j1 l2) → JC x jtbM mX12_isSees d [.ref (x.2.2.2 0)] M2 (jZ fun M3 b1 => (b1 = false → JW x jtbM mX12_readVillage (d + 1) (jV P) 156 [(0, .ref (x.2.2.2 0)), (1, .int l1), (2, .int l2)] [.int (0 : Int32), .int ((1732 : Int32) + l1), .ref (x.2.2.2 5)] M3) ∧ (b1 = true → JW x jtbM mX12_readVillage (d + 1) (jV P) 156 [(0, .ref (x.2.2.2 0)), (1, .int l1), (2, .int l2)] [.int (1 : Int32), .int ((1732 : Int32) + l1), .ref (x.2.2.2 5)] M3)))) ∧ (¬ (M1.1 0 12) ≤ 0 → P M1))) :
    JW x jtbM mX12_readVillage (d + 1) (jV P) 113 [(0, .ref (x.2.2.2 0)), (1, .int l1), (2, .int l2)] [.int k0, .ref (x.2.2.2 0)] M := by
  refine jw_callV (pc := 113) (m2 := mX12_must) (As := [.int k0]) (st := []) dX12_readVillage_113 sM_0 (by decide) rfl rfl gm_X12_must ml_X12_265 rfl (Nat.le_of_ble_eq_true rfl) (JC.mono h ?_)
  clear h
  rintro M1 _ ⟨rfl, h⟩
  refine jw_st (st' := []) rfl ?_
  refine jw_aload_n (pc := 116) (j := 0) dX12_readVillage_116 rfl rfl ?_
  refine jw_getI (pc := 117) dX12_readVillage_117 sM_0 fl_X12_229 (by decide) rfl ?_
  refine jw_if_le (pc := 120) (tgt := 124) dX12_readVillage_120 (by decide) (fun c => ?_) (fun c => ?_)
  · replace h := h.1 c
    refine jw_aload_n (pc := 124) (j := 0) dX12_readVillage_124 rfl rfl ?_
    refine jw_getR (pc := 125) (r := 5) dX12_readVillage_125 sM_0 fl_X12_35 (by decide) rfl rfl ?_
    refine jw_sipush (pc := 128) (v := 1726) dX12_readVillage_128 rfl ?_
    refine jw_iload_n (pc := 131) (j := 1) dX12_readVillage_131 rfl rfl ?_
    refine jw_iadd (pc := 132) dX12_readVillage_132 ?_
    refine jw_iload_n (pc := 133) (j := 2) dX12_readVillage_133 rfl rfl ?_
    obtain ⟨j1, hj1, ej1, h⟩ := h
    refine jw_iast (pc := 134) (j := j1) dX12_readVillage_134 sM_5 hj1 ej1 (by decide) ?_
    replace h := h _ rfl
    generalize jrI M1 5 (upd (M1.1 5) j1 l2) = M2 at h ⊢
    refine jw_aload_n (pc := 135) (j := 0) dX12_readVillage_135 rfl rfl ?_
    refine jw_getR (pc := 136) (r := 5) dX12_readVillage_136 sM_0 fl_X12_35 (by decide) rfl rfl ?_
    refine jw_sipush (pc := 139) (v := 1732) dX12_readVillage_139 rfl ?_
    refine jw_iload_n (pc := 142) (j := 1) dX12_readVillage_142 rfl rfl ?_
    refine jw_iadd (pc := 143) dX12_readVillage_143 ?_
    refine jw_aload_n (pc := 144) (j := 0) dX12_readVillage_144 rfl rfl ?_
    refine jw_callV (pc := 145) (m2 := mX12_isSees) (As := []) (st := [.int ((1732 : Int32) + l1), .ref (x.2.2.2 5)]) dX12_readVillage_145 sM_0 (by decide) rfl rfl gm_X12_isSees ml_X12_187 rfl (Nat.le_of_ble_eq_true rfl) (JC.mono h ?_)
    clear h
    rintro M3 _ ⟨b1, rfl, h⟩
    refine jw_st (st' := [.int (jb b1), .int ((1732 : Int32) + l1), .ref (x.2.2.2 5)]) rfl ?_
    refine jw_if_eq (pc := 148) (tgt := 155) dX12_readVillage_148 (by decide) (fun c => ?_) (fun c => ?_)
    · replace h := h.1 ((jb_0 _).mp c)
      refine jw_iconst (pc := 155) (v := 0) dX12_readVillage_155 rfl ?_
      exact jw_sub [0, 1, 2] rfl h
    · replace h := h.2 (jb_ne c)
      refine jw_iconst (pc := 151) (v := 1) dX12_readVillage_151 rfl ?_
      refine jw_goto (pc := 152) (tgt := 156) dX12_readVillage_152 (by decide) ?_
      exact jw_sub [0, 1, 2] rfl h
  · replace h := h.2 c
    exact jw_vret (pc := 123) dX12_readVillage_123 rfl ⟨rfl, h⟩
set_option maxRecDepth 20000 in
theorem b_X12_readVillage_156 {x : jX} {d : Nat} {M : jM} {P : jM → Prop} {l1 : Int32} {l2 : Int32} {k0 : Int32} {k1 : Int32} 
    (h : ∃ j1, j1 < 2060 ∧ k1 = nI j1 ∧ (∀ M1, M1 = jrI M 5 (upd (M.1 5) j1 k0) → JC x jtbM mX12_isSees d [.ref (x.2.2.2 0)] M1 (jZ fun M2 b1 => (b1 = false → JW x jtbM mX12_readVillage (d + 1) (jV P) 200 [(0, .ref (x.2.2.2 0))] [] M2) ∧ (b1 = true → JC x jtbM mX12_stripsOf d [.ref (x.2.2.2 0), .int l2, .int (M2.1 5 1648), .int (M2.1 5 1649)] M2 (jI fun M3 r1 => JC x jtbM mX12_readRow d [.ref (x.2.2.2 0), .int ((1738 : Int32) + ((9 : Int32) * l1)), .int r1, .int (0 : Int32), .int (99 : Int32)] M3 (jV fun M4 => JW x jtbM mX12_readVillage (d + 1) (jV P) 200 [(0, .ref (x.2.2.2 0))] [] M4)))))) :
    JW x jtbM mX12_readVillage (d + 1) (jV P) 156 [(0, .ref (x.2.2.2 0)), (1, .int l1), (2, .int l2)] [.int k0, .int k1, .ref (x.2.2.2 5)] M := by
  obtain ⟨j1, hj1, ej1, h⟩ := h
  refine jw_iast (pc := 156) (j := j1) dX12_readVillage_156 sM_5 hj1 ej1 (by decide) ?_
  replace h := h _ rfl
  generalize jrI M 5 (upd (M.1 5) j1 k0) = M1 at h ⊢
  refine jw_aload_n (pc := 157) (j := 0) dX12_readVillage_157 rfl rfl ?_
  refine jw_callV (pc := 158) (m2 := mX12_isSees) (As := []) (st := []) dX12_readVillage_158 sM_0 (by decide) rfl rfl gm_X12_isSees ml_X12_187 rfl (Nat.le_of_ble_eq_true rfl) (JC.mono h ?_)
  clear h
  rintro M2 _ ⟨b1, rfl, h⟩
  refine jw_st (st' := [.int (jb b1)]) rfl ?_
  refine jw_if_eq (pc := 161) (tgt := 200) dX12_readVillage_161 (by decide) (fun c => ?_) (fun c => ?_)
  · replace h := h.1 ((jb_0 _).mp c)
    exact jw_sub [0] rfl h
  · replace h := h.2 (jb_ne c)
    refine jw_aload_n (pc := 164) (j := 0) dX12_readVillage_164 rfl rfl ?_
    refine jw_sipush (pc := 165) (v := 1738) dX12_readVillage_165 rfl ?_
    refine jw_bipush (pc := 168) (v := 9) dX12_readVillage_168 rfl ?_
    refine jw_iload_n (pc := 170) (j := 1) dX12_readVillage_170 rfl rfl ?_
    refine jw_imul (pc := 171) dX12_readVillage_171 ?_
    refine jw_iadd (pc := 172) dX12_readVillage_172 ?_
    refine jw_aload_n (pc := 173) (j := 0) dX12_readVillage_173 rfl rfl ?_
    refine jw_iload_n (pc := 174) (j := 2) dX12_readVillage_174 rfl rfl ?_
    refine jw_aload_n (pc := 175) (j := 0) dX12_readVillage_175 rfl rfl ?_
    refine jw_getR (pc := 176) (r := 5) dX12_readVillage_176 sM_0 fl_X12_35 (by decide) rfl rfl ?_
    refine jw_sipush (pc := 179) (v := 1648) dX12_readVillage_179 rfl ?_
    refine jw_iald (pc := 182) (j := 1648) dX12_readVillage_182 sM_5 (by decide) rfl (by decide) ?_
    refine jw_aload_n (pc := 183) (j := 0) dX12_readVillage_183 rfl rfl ?_
    refine jw_getR (pc := 184) (r := 5) dX12_readVillage_184 sM_0 fl_X12_35 (by decide) rfl rfl ?_
    refine jw_sipush (pc := 187) (v := 1649) dX12_readVillage_187 rfl ?_
    refine jw_iald (pc := 190) (j := 1649) dX12_readVillage_190 sM_5 (by decide) rfl (by decide) ?_
    refine jw_callV (pc := 191) (m2 := mX12_stripsOf) (As := [.int l2, .int (M2.1 5 1648), .int (M2.1 5 1649)]) (st := [.int ((1738 : Int32) + ((9 : Int32) * l1)), .ref (x.2.2.2 0)]) dX12_readVillage_191 sM_0 (by decide) rfl rfl gm_X12_stripsOf ml_X12_269 rfl (Nat.le_of_ble_eq_true rfl) (JC.mono h ?_)
    clear h
    rintro M3 _ ⟨r1, rfl, h⟩
    refine jw_st (st' := [.int r1, .int ((1738 : Int32) + ((9 : Int32) * l1)), .ref (x.2.2.2 0)]) rfl ?_
    refine jw_iconst (pc := 194) (v := 0) dX12_readVillage_194 rfl ?_
    refine jw_bipush (pc := 195) (v := 99) dX12_readVillage_195 rfl ?_
    refine jw_callV (pc := 197) (m2 := mX12_readRow) (As := [.int ((1738 : Int32) + ((9 : Int32) * l1)), .int r1, .int (0 : Int32), .int (99 : Int32)]) (st := []) dX12_readVillage_197 sM_0 (by decide) rfl rfl gm_X12_readRow ml_X12_255 rfl (Nat.le_of_ble_eq_true rfl) (JC.mono h ?_)
    clear h
    rintro M4 _ ⟨rfl, h⟩
    refine jw_st (st' := []) rfl ?_
    exact jw_sub [0] rfl h
set_option maxRecDepth 20000 in
theorem b_X12_readVillage_200 {x : jX} {d : Nat} {M : jM} {P : jM → Prop}  
    (h : (¬ (M.1 0 12) = 0 → P M) ∧ ((M.1 0 12) = 0 → ∀ M1, M1 = jrI M 5 (upd (M.1 5) 1650 ((M.1 5 1650) + (1 : Int32))) → P M1)) :
    JW x jtbM mX12_readVillage (d + 1) (jV P) 200 [(0, .ref (x.2.2.2 0))] [] M := by
  refine jw_aload_n (pc := 200) (j := 0) dX12_readVillage_200 rfl rfl ?_
  refine jw_getI (pc := 201) dX12_readVillage_201 sM_0 fl_X12_229 (by decide) rfl ?_
  refine jw_if_ne (pc := 204) (tgt := 219) dX12_readVillage_204 (by decide) (fun c => ?_) (fun c => ?_)
  · replace h := h.1 c
    exact jw_vret (pc := 219) dX12_readVillage_219 rfl ⟨rfl, h⟩
  · replace h := h.2 c
    refine jw_aload_n (pc := 207) (j := 0) dX12_readVillage_207 rfl rfl ?_
    refine jw_getR (pc := 208) (r := 5) dX12_readVillage_208 sM_0 fl_X12_35 (by decide) rfl rfl ?_
    refine jw_sipush (pc := 211) (v := 1650) dX12_readVillage_211 rfl ?_
    refine jw_dup2 (pc := 214) dX12_readVillage_214 rfl rfl ?_
    refine jw_iald (pc := 215) (j := 1650) dX12_readVillage_215 sM_5 (by decide) rfl (by decide) ?_
    refine jw_iconst (pc := 216) (v := 1) dX12_readVillage_216 rfl ?_
    refine jw_iadd (pc := 217) dX12_readVillage_217 ?_
    refine jw_iast (pc := 218) (j := 1650) dX12_readVillage_218 sM_5 (by decide) rfl (by decide) ?_
    replace h := h _ rfl
    generalize jrI M 5 (upd (M.1 5) 1650 ((M.1 5 1650) + (1 : Int32))) = M1 at h ⊢
    exact jw_vret (pc := 219) dX12_readVillage_219 rfl ⟨rfl, h⟩
set_option maxRecDepth 20000 in
theorem b_X12_plain {x : jX} {d : Nat} {M : jM} {P : jM → Int32 → Prop} {a1 : Int32} 
    (h : ∀ M1, M1 = jrI M 0 (upd (M.1 0) 1 (0 : Int32)) → ∀ M2, M2 = jrI M1 0 (upd (M1.1 0) 0 (0 : Int32)) → JC x jtbM mX12_opens d [.ref (x.2.2.2 0), .int a1, .int (900 : Int32)] M2 (jZ fun M3 b1 => (b1 = true → JW x jtbM mX12_plain (d + 1) (jI P) 25 [(0, .ref (x.2.2.2 0)), (2, .int (0 : Int32))] [] M3) ∧ (b1 = false → P M3 (-1 : Int32)))) :
    JC x jtbM mX12_plain (d + 1) [.ref (x.2.2.2 0), .int a1] M (jI P) := by
  refine JC.of rfl (Nat.le_of_ble_eq_true rfl) ?_
  refine jw_ls (ls' := [(0, .ref (x.2.2.2 0)), (1, .int a1)]) rfl ?_
  refine jw_aload_n (pc := 0) (j := 0) dX12_plain_0 rfl rfl ?_
  refine jw_iconst (pc := 1) (v := 0) dX12_plain_1 rfl ?_
  refine jw_putI (pc := 2) dX12_plain_2 sM_0 fl_X12_81 fw_12_1 (by decide) rfl ?_
  replace h := h _ rfl
  generalize jrI M 0 (upd (M.1 0) 1 (0 : Int32)) = M1 at h ⊢
  refine jw_aload_n (pc := 5) (j := 0) dX12_plain_5 rfl rfl ?_
  refine jw_iconst (pc := 6) (v := 0) dX12_plain_6 rfl ?_
  refine jw_putI (pc := 7) dX12_plain_7 sM_0 fl_X12_84 fw_12_0 (by decide) rfl ?_
  replace h := h _ rfl
  generalize jrI M1 0 (upd (M1.1 0) 0 (0 : Int32)) = M2 at h ⊢
  refine jw_aload_n (pc := 10) (j := 0) dX12_plain_10 rfl rfl ?_
  refine jw_iload_n (pc := 11) (j := 1) dX12_plain_11 rfl rfl ?_
  refine jw_sipush (pc := 12) (v := 900) dX12_plain_12 rfl ?_
  refine jw_callV (pc := 15) (m2 := mX12_opens) (As := [.int a1, .int (900 : Int32)]) (st := []) dX12_plain_15 sM_0 (by decide) rfl rfl gm_X12_opens ml_X12_273 rfl (Nat.le_of_ble_eq_true rfl) (JC.mono h ?_)
  clear h
  rintro M3 _ ⟨b1, rfl, h⟩
  refine jw_st (st' := [.int (jb b1)]) rfl ?_
  refine jw_if_ne (pc := 18) (tgt := 23) dX12_plain_18 (by decide) (fun c => ?_) (fun c => ?_)
  · replace h := h.1 (jb_ne c)
    refine jw_iconst (pc := 23) (v := 0) dX12_plain_23 rfl ?_
    refine jw_istore_n (pc := 24) (ls' := [(2, .int (0 : Int32)), (0, .ref (x.2.2.2 0)), (1, .int a1)]) dX12_plain_24 rfl (by decide) rfl ?_
    exact jw_sub [1, 0] rfl h
  · replace h := h.2 ((jb_0 _).mp c)
    refine jw_iconst (pc := 21) (v := (-1)) dX12_plain_21 rfl ?_
    exact jw_iret (pc := 22) dX12_plain_22 rfl ⟨_, rfl, h⟩
