set_option maxRecDepth 20000 in
theorem b_X4_readOrders {x : jX} {d : Nat} {M : jM} {P : jM → Bool → Prop} {o1 : Nat} {a2 : Int32} 
    (h : ∀ M1, M1 = jrI M 16 (upd (M.1 16) 3 (0 : Int32)) → JC x jtbC mX3_begin d [.ref (x.2.2.2 17), .int (1 : Int32)] M1 (jV fun M2 => JC x jtbC mX7_begin d [.ref (x.2.2.2 25), .ref (x.2.2.2 o1), .int a2] M2 (jV fun M3 => JW x jtbC mX4_readOrders (d + 1) (jZ P) 25 [(0, .ref (x.2.2.2 16)), (2, .int a2), (3, .ref (x.2.2.2 30)), (4, .int (0 : Int32))] [] M3))) :
    JC x jtbC mX4_readOrders (d + 1) [.ref (x.2.2.2 16), .ref (x.2.2.2 o1), .int a2, .ref (x.2.2.2 30)] M (jZ P) := by
  refine JC.of rfl (Nat.le_of_ble_eq_true rfl) ?_
  refine jw_ls (ls' := [(0, .ref (x.2.2.2 16)), (1, .ref (x.2.2.2 o1)), (2, .int a2), (3, .ref (x.2.2.2 30))]) rfl ?_
  refine jw_aload_n (pc := 0) (j := 0) dX4_readOrders_0 rfl rfl ?_
  refine jw_iconst (pc := 1) (v := 0) dX4_readOrders_1 rfl ?_
  refine jw_putI (pc := 2) dX4_readOrders_2 sC_16 fl_X4_29 fw_4_3 (by decide) rfl ?_
  replace h := h _ rfl
  generalize jrI M 16 (upd (M.1 16) 3 (0 : Int32)) = M1 at h ⊢
  refine jw_aload_n (pc := 5) (j := 0) dX4_readOrders_5 rfl rfl ?_
  refine jw_getR (pc := 6) (r := 17) dX4_readOrders_6 sC_16 fl_X4_12 (by decide) rfl rfl ?_
  refine jw_iconst (pc := 9) (v := 1) dX4_readOrders_9 rfl ?_
  refine jw_callV (pc := 10) (m2 := mX3_begin) (As := [.int (1 : Int32)]) (st := []) dX4_readOrders_10 sC_17 (by decide) rfl rfl gm_X3_begin ml_X4_33 rfl (Nat.le_of_ble_eq_true rfl) (JC.mono h ?_)
  clear h
  rintro M2 _ ⟨rfl, h⟩
  refine jw_st (st' := []) rfl ?_
  refine jw_aload_n (pc := 13) (j := 0) dX4_readOrders_13 rfl rfl ?_
  refine jw_getR (pc := 14) (r := 25) dX4_readOrders_14 sC_16 fl_X4_21 (by decide) rfl rfl ?_
  refine jw_aload_n (pc := 17) (j := 1) dX4_readOrders_17 rfl rfl ?_
  refine jw_iload_n (pc := 18) (j := 2) dX4_readOrders_18 rfl rfl ?_
  refine jw_callV (pc := 19) (m2 := mX7_begin) (As := [.ref (x.2.2.2 o1), .int a2]) (st := []) dX4_readOrders_19 sC_25 (by decide) rfl rfl gm_X7_begin ml_X4_37 rfl (Nat.le_of_ble_eq_true rfl) (JC.mono h ?_)
  clear h
  rintro M3 _ ⟨rfl, h⟩
  refine jw_st (st' := []) rfl ?_
  refine jw_iconst (pc := 22) (v := 0) dX4_readOrders_22 rfl ?_
  refine jw_istore (pc := 23) (ls' := [(4, .int (0 : Int32)), (0, .ref (x.2.2.2 16)), (1, .ref (x.2.2.2 o1)), (2, .int a2), (3, .ref (x.2.2.2 30))]) dX4_readOrders_23 (by decide) rfl ?_
  exact jw_sub [1, 3, 4, 0] rfl h
set_option maxRecDepth 20000 in
theorem b_X4_readOrders_25 {x : jX} {d : Nat} {M : jM} {P : jM → Bool → Prop} {l2 : Int32} {l4 : Int32} 
    (h : (l2 ≤ l4 → JW x jtbC mX4_readOrders (d + 1) (jZ P) 105 [(0, .ref (x.2.2.2 16))] [] M) ∧ (¬ l2 ≤ l4 → ((M.1 25 0) = 0 → JW x jtbC mX4_readOrders (d + 1) (jZ P) 105 [(0, .ref (x.2.2.2 16))] [] M) ∧ (¬ (M.1 25 0) = 0 → (¬ (M.1 25 3) = (16 : Int32) → JC x jtbC mX4_openStep d [.ref (x.2.2.2 16)] M (jZ fun M1 b1 => (b1 = false → JW x jtbC mX4_readOrders (d + 1) (jZ P) 80 [(0, .ref (x.2.2.2 16)), (2, .int l2), (3, .ref (x.2.2.2 30)), (4, .int l4)] [.int (0 : Int32)] M1) ∧ (b1 = true → JC x jtbC mX4_readRest d [.ref (x.2.2.2 16), .ref (x.2.2.2 30)] M1 (jZ fun M2 b2 => (b2 = false → JW x jtbC mX4_readOrders (d + 1) (jZ P) 80 [(0, .ref (x.2.2.2 16)), (2, .int l2), (3, .ref (x.2.2.2 30)), (4, .int l4)] [.int (0 : Int32)] M2) ∧ (b2 = true → JW x jtbC mX4_readOrders (d + 1) (jZ P) 80 [(0, .ref (x.2.2.2 16)), (2, .int l2), (3, .ref (x.2.2.2 30)), (4, .int l4)] [.int (1 : Int32)] M2))))) ∧ ((M.1 25 3) = (16 : Int32) → JC x jtbC mX4_readEnd d [.ref (x.2.2.2 16)] M (jZ fun M3 b3 => JW x jtbC mX4_readOrders (d + 1) (jZ P) 80 [(0, .ref (x.2.2.2 16)), (2, .int l2), (3, .ref (x.2.2.2 30)), (4, .int l4)] [.int (jb b3)] M3))))) :
    JW x jtbC mX4_readOrders (d + 1) (jZ P) 25 [(0, .ref (x.2.2.2 16)), (2, .int l2), (3, .ref (x.2.2.2 30)), (4, .int l4)] [] M := by
  refine jw_iload (pc := 25) (j := 3) dX4_readOrders_25 rfl ?_
  refine jw_iload_n (pc := 27) (j := 1) dX4_readOrders_27 rfl rfl ?_
  refine jw_icmp_ge (pc := 28) (tgt := 105) dX4_readOrders_28 (by decide) (fun c => ?_) (fun c => ?_)
  · replace h := h.1 c
    exact jw_sub [0] rfl h
  · replace h := h.2 c
    refine jw_aload_n (pc := 31) (j := 0) dX4_readOrders_31 rfl rfl ?_
    refine jw_getR (pc := 32) (r := 25) dX4_readOrders_32 sC_16 fl_X4_21 (by decide) rfl rfl ?_
    refine jw_getI (pc := 35) dX4_readOrders_35 sC_25 fl_X4_40 (by decide) rfl ?_
    refine jw_if_eq (pc := 38) (tgt := 105) dX4_readOrders_38 (by decide) (fun c => ?_) (fun c => ?_)
    · replace h := h.1 c
      exact jw_sub [0] rfl h
    · replace h := h.2 c
      refine jw_aload_n (pc := 41) (j := 0) dX4_readOrders_41 rfl rfl ?_
      refine jw_getR (pc := 42) (r := 25) dX4_readOrders_42 sC_16 fl_X4_21 (by decide) rfl rfl ?_
      refine jw_getI (pc := 45) dX4_readOrders_45 sC_25 fl_X4_43 (by decide) rfl ?_
      refine jw_bipush (pc := 48) (v := 16) dX4_readOrders_48 rfl ?_
      refine jw_icmp_ne (pc := 50) (tgt := 60) dX4_readOrders_50 (by decide) (fun c => ?_) (fun c => ?_)
      · replace h := h.1 c
        refine jw_aload_n (pc := 60) (j := 0) dX4_readOrders_60 rfl rfl ?_
        refine jw_callV (pc := 61) (m2 := mX4_openStep) (As := []) (st := []) dX4_readOrders_61 sC_16 (by decide) rfl rfl gm_X4_openStep ml_X4_50 rfl (Nat.le_of_ble_eq_true rfl) (JC.mono h ?_)
        clear h
        rintro M1 _ ⟨b1, rfl, h⟩
        refine jw_st (st' := [.int (jb b1)]) rfl ?_
        refine jw_if_eq (pc := 64) (tgt := 79) dX4_readOrders_64 (by decide) (fun c => ?_) (fun c => ?_)
        · replace h := h.1 ((jb_0 _).mp c)
          refine jw_iconst (pc := 79) (v := 0) dX4_readOrders_79 rfl ?_
          exact jw_sub [0, 1, 2, 3] rfl h
        · replace h := h.2 (jb_ne c)
          refine jw_aload_n (pc := 67) (j := 0) dX4_readOrders_67 rfl rfl ?_
          refine jw_aload_n (pc := 68) (j := 2) dX4_readOrders_68 rfl rfl ?_
          refine jw_callV (pc := 69) (m2 := mX4_readRest) (As := [.ref (x.2.2.2 30)]) (st := []) dX4_readOrders_69 sC_16 (by decide) rfl rfl gm_X4_readRest ml_X4_53 rfl (Nat.le_of_ble_eq_true rfl) (JC.mono h ?_)
          clear h
          rintro M2 _ ⟨b2, rfl, h⟩
          refine jw_st (st' := [.int (jb b2)]) rfl ?_
          refine jw_if_eq (pc := 72) (tgt := 79) dX4_readOrders_72 (by decide) (fun c => ?_) (fun c => ?_)
          · replace h := h.1 ((jb_0 _).mp c)
            refine jw_iconst (pc := 79) (v := 0) dX4_readOrders_79 rfl ?_
            exact jw_sub [0, 1, 2, 3] rfl h
          · replace h := h.2 (jb_ne c)
            refine jw_iconst (pc := 75) (v := 1) dX4_readOrders_75 rfl ?_
            refine jw_goto (pc := 76) (tgt := 80) dX4_readOrders_76 (by decide) ?_
            exact jw_sub [0, 1, 2, 3] rfl h
      · replace h := h.2 c
        refine jw_aload_n (pc := 53) (j := 0) dX4_readOrders_53 rfl rfl ?_
        refine jw_callV (pc := 54) (m2 := mX4_readEnd) (As := []) (st := []) dX4_readOrders_54 sC_16 (by decide) rfl rfl gm_X4_readEnd ml_X4_46 rfl (Nat.le_of_ble_eq_true rfl) (JC.mono h ?_)
        clear h
        rintro M3 _ ⟨b3, rfl, h⟩
        refine jw_st (st' := [.int (jb b3)]) rfl ?_
        refine jw_goto (pc := 57) (tgt := 80) dX4_readOrders_57 (by decide) ?_
        exact jw_sub [0, 1, 2, 3] rfl h
set_option maxRecDepth 20000 in
theorem b_X4_readOrders_80 {x : jX} {d : Nat} {M : jM} {P : jM → Bool → Prop} {l2 : Int32} {l4 : Int32} {k0 : Int32} 
    (h : (k0 = 0 → P M false) ∧ (¬ k0 = 0 → JC x jtbC mX7_takeSemicolon d [.ref (x.2.2.2 25)] M (jZ fun M1 b1 => (b1 = true → JW x jtbC mX4_readOrders (d + 1) (jZ P) 25 [(0, .ref (x.2.2.2 16)), (2, .int l2), (3, .ref (x.2.2.2 30)), (4, .int (l4 + 1))] [] M1) ∧ (b1 = false → P M1 false)))) :
    JW x jtbC mX4_readOrders (d + 1) (jZ P) 80 [(0, .ref (x.2.2.2 16)), (2, .int l2), (3, .ref (x.2.2.2 30)), (4, .int l4)] [.int k0] M := by
  refine jw_istore (pc := 80) (ls' := [(5, .int k0), (0, .ref (x.2.2.2 16)), (2, .int l2), (3, .ref (x.2.2.2 30)), (4, .int l4)]) dX4_readOrders_80 (by decide) rfl ?_
  refine jw_iload (pc := 82) (j := 0) dX4_readOrders_82 rfl ?_
  refine jw_if_eq (pc := 84) (tgt := 97) dX4_readOrders_84 (by decide) (fun c => ?_) (fun c => ?_)
  · replace h := h.1 c
    refine jw_iconst (pc := 97) (v := 0) dX4_readOrders_97 rfl ?_
    exact jw_zret (pc := 98) dX4_readOrders_98 rfl (Or.inl rfl) ⟨false, rfl, h⟩
  · replace h := h.2 c
    refine jw_aload_n (pc := 87) (j := 1) dX4_readOrders_87 rfl rfl ?_
    refine jw_getR (pc := 88) (r := 25) dX4_readOrders_88 sC_16 fl_X4_21 (by decide) rfl rfl ?_
    refine jw_callV (pc := 91) (m2 := mX7_takeSemicolon) (As := []) (st := []) dX4_readOrders_91 sC_25 (by decide) rfl rfl gm_X7_takeSemicolon ml_X4_57 rfl (Nat.le_of_ble_eq_true rfl) (JC.mono h ?_)
    clear h
    rintro M1 _ ⟨b1, rfl, h⟩
    refine jw_st (st' := [.int (jb b1)]) rfl ?_
    refine jw_if_ne (pc := 94) (tgt := 99) dX4_readOrders_94 (by decide) (fun c => ?_) (fun c => ?_)
    · replace h := h.1 (jb_ne c)
      refine jw_iinc (pc := 99) (j := 4) (u := l4 + 1) (ls' := [(4, .int (l4 + 1)), (5, .int k0), (0, .ref (x.2.2.2 16)), (2, .int l2), (3, .ref (x.2.2.2 30))]) dX4_readOrders_99 rfl rfl (by decide) rfl ?_
      refine jw_goto (pc := 102) (tgt := 25) dX4_readOrders_102 (by decide) ?_
      exact jw_sub [2, 3, 4, 0] rfl h
    · replace h := h.2 ((jb_0 _).mp c)
      refine jw_iconst (pc := 97) (v := 0) dX4_readOrders_97 rfl ?_
      exact jw_zret (pc := 98) dX4_readOrders_98 rfl (Or.inl rfl) ⟨false, rfl, h⟩
set_option maxRecDepth 20000 in
theorem b_X4_readOrders_105 {x : jX} {d : Nat} {M : jM} {P : jM → Bool → Prop}  
    (h : ((M.1 16 3) = 0 → P M true) ∧ (¬ (M.1 16 3) = 0 → JC x jtbC mX7_refuse d [.ref (x.2.2.2 25), .int (2 : Int32)] M (jZ fun M1 b1 => (b1 = false → P M1 false) ∧ (b1 = true → P M1 true)))) :
    JW x jtbC mX4_readOrders (d + 1) (jZ P) 105 [(0, .ref (x.2.2.2 16))] [] M := by
  refine jw_aload_n (pc := 105) (j := 0) dX4_readOrders_105 rfl rfl ?_
  refine jw_getI (pc := 106) dX4_readOrders_106 sC_16 fl_X4_29 (by decide) rfl ?_
  refine jw_if_eq (pc := 109) (tgt := 123) dX4_readOrders_109 (by decide) (fun c => ?_) (fun c => ?_)
  · replace h := h.1 c
    refine jw_iconst (pc := 123) (v := 1) dX4_readOrders_123 rfl ?_
    refine jw_goto (pc := 124) (tgt := 128) dX4_readOrders_124 (by decide) ?_
    exact jw_zret (pc := 128) dX4_readOrders_128 rfl (Or.inr rfl) ⟨true, rfl, h⟩
  · replace h := h.2 c
    refine jw_aload_n (pc := 112) (j := 0) dX4_readOrders_112 rfl rfl ?_
    refine jw_getR (pc := 113) (r := 25) dX4_readOrders_113 sC_16 fl_X4_21 (by decide) rfl rfl ?_
    refine jw_iconst (pc := 116) (v := 2) dX4_readOrders_116 rfl ?_
    refine jw_callV (pc := 117) (m2 := mX7_refuse) (As := [.int (2 : Int32)]) (st := []) dX4_readOrders_117 sC_25 (by decide) rfl rfl gm_X7_refuse ml_X4_60 rfl (Nat.le_of_ble_eq_true rfl) (JC.mono h ?_)
    clear h
    rintro M1 _ ⟨b1, rfl, h⟩
    refine jw_st (st' := [.int (jb b1)]) rfl ?_
    refine jw_if_eq (pc := 120) (tgt := 127) dX4_readOrders_120 (by decide) (fun c => ?_) (fun c => ?_)
    · replace h := h.1 ((jb_0 _).mp c)
      refine jw_iconst (pc := 127) (v := 0) dX4_readOrders_127 rfl ?_
      exact jw_zret (pc := 128) dX4_readOrders_128 rfl (Or.inl rfl) ⟨false, rfl, h⟩
    · replace h := h.2 (jb_ne c)
      refine jw_iconst (pc := 123) (v := 1) dX4_readOrders_123 rfl ?_
      refine jw_goto (pc := 124) (tgt := 128) dX4_readOrders_124 (by decide) ?_
      exact jw_zret (pc := 128) dX4_readOrders_128 rfl (Or.inr rfl) ⟨true, rfl, h⟩
set_option maxRecDepth 20000 in
theorem b_X4_readEnd {x : jX} {d : Nat} {M : jM} {P : jM → Bool → Prop}  
    (h : ((M.1 16 3) ≤ 0 → JC x jtbC mX7_refuse d [.ref (x.2.2.2 25), .int (2 : Int32)] M (jZ fun M1 b1 => P M1 b1)) ∧ (¬ (M.1 16 3) ≤ 0 → ((M.1 17 2) < (60 : Int32) → ∀ M2, M2 = jrI M 16 (upd (M.1 16) 3 ((M.1 16 3) - (1 : Int32))) → ∃ j1, j1 < 60 ∧ M2.1 17 2 = nI j1 ∧ (∀ M3, M3 = jrI M2 18 (upd (M2.1 18) j1 (16 : Int32)) → ∃ j2, j2 < 3 ∧ M3.1 16 3 = nI j2 ∧ (∀ M4, M4 = jrI M3 24 (upd (M3.1 24) j1 (M3.1 28 j2)) → ∃ j3, j3 < 3 ∧ M4.1 16 3 = nI j3 ∧ (∃ j4, j4 < 60 ∧ M4.1 28 j3 = nI j4 ∧ (∀ M5, M5 = jrI M4 24 (upd (M4.1 24) j4 (M2.1 17 2)) → ∀ M6, M6 = jrI M5 17 (upd (M5.1 17) 2 ((M5.1 17 2) + (1 : Int32))) → JC x jtbC mX7_takeWord d [.ref (x.2.2.2 25), .int (16 : Int32)] M6 (jZ fun M7 b2 => P M7 b2)))))) ∧ (¬ (M.1 17 2) < (60 : Int32) → JC x jtbC mX7_refuse d [.ref (x.2.2.2 25), .int (2 : Int32)] M (jZ fun M8 b3 => P M8 b3)))) :
    JC x jtbC mX4_readEnd (d + 1) [.ref (x.2.2.2 16)] M (jZ P) := by
  refine JC.of rfl (Nat.le_of_ble_eq_true rfl) ?_
  refine jw_ls (ls' := [(0, .ref (x.2.2.2 16))]) rfl ?_
  refine jw_aload_n (pc := 0) (j := 0) dX4_readEnd_0 rfl rfl ?_
  refine jw_getI (pc := 1) dX4_readEnd_1 sC_16 fl_X4_29 (by decide) rfl ?_
  refine jw_if_le (pc := 4) (tgt := 19) dX4_readEnd_4 (by decide) (fun c => ?_) (fun c => ?_)
  · replace h := h.1 c
    refine jw_aload_n (pc := 19) (j := 0) dX4_readEnd_19 rfl rfl ?_
    refine jw_getR (pc := 20) (r := 25) dX4_readEnd_20 sC_16 fl_X4_21 (by decide) rfl rfl ?_
    refine jw_iconst (pc := 23) (v := 2) dX4_readEnd_23 rfl ?_
    refine jw_callV (pc := 24) (m2 := mX7_refuse) (As := [.int (2 : Int32)]) (st := []) dX4_readEnd_24 sC_25 (by decide) rfl rfl gm_X7_refuse ml_X4_60 rfl (Nat.le_of_ble_eq_true rfl) (JC.mono h ?_)
    clear h
    rintro M1 _ ⟨b1, rfl, h⟩
    refine jw_st (st' := [.int (jb b1)]) rfl ?_
    exact jw_zret (pc := 27) dX4_readEnd_27 rfl (jb_01 _) ⟨_, rfl, h⟩
  · replace h := h.2 c
    refine jw_aload_n (pc := 7) (j := 0) dX4_readEnd_7 rfl rfl ?_
    refine jw_getR (pc := 8) (r := 17) dX4_readEnd_8 sC_16 fl_X4_12 (by decide) rfl rfl ?_
    refine jw_getI (pc := 11) dX4_readEnd_11 sC_17 fl_X4_64 (by decide) rfl ?_
    refine jw_bipush (pc := 14) (v := 60) dX4_readEnd_14 rfl ?_
    refine jw_icmp_lt (pc := 16) (tgt := 28) dX4_readEnd_16 (by decide) (fun c => ?_) (fun c => ?_)
    · replace h := h.1 c
      refine jw_aload_n (pc := 28) (j := 0) dX4_readEnd_28 rfl rfl ?_
      refine jw_dup (pc := 29) dX4_readEnd_29 rfl ?_
      refine jw_getI (pc := 30) dX4_readEnd_30 sC_16 fl_X4_29 (by decide) rfl ?_
      refine jw_iconst (pc := 33) (v := 1) dX4_readEnd_33 rfl ?_
      refine jw_isub (pc := 34) dX4_readEnd_34 ?_
      refine jw_putI (pc := 35) dX4_readEnd_35 sC_16 fl_X4_29 fw_4_3 (by decide) rfl ?_
      replace h := h _ rfl
      generalize jrI M 16 (upd (M.1 16) 3 ((M.1 16 3) - (1 : Int32))) = M2 at h ⊢
      refine jw_aload_n (pc := 38) (j := 0) dX4_readEnd_38 rfl rfl ?_
      refine jw_getR (pc := 39) (r := 17) dX4_readEnd_39 sC_16 fl_X4_12 (by decide) rfl rfl ?_
      refine jw_getI (pc := 42) dX4_readEnd_42 sC_17 fl_X4_64 (by decide) rfl ?_
      refine jw_istore_n (pc := 45) (ls' := [(1, .int (M2.1 17 2)), (0, .ref (x.2.2.2 16))]) dX4_readEnd_45 rfl (by decide) rfl ?_
      refine jw_aload_n (pc := 46) (j := 1) dX4_readEnd_46 rfl rfl ?_
      refine jw_getR (pc := 47) (r := 17) dX4_readEnd_47 sC_16 fl_X4_12 (by decide) rfl rfl ?_
      refine jw_getR (pc := 50) (r := 18) dX4_readEnd_50 sC_17 fl_X4_67 (by decide) rfl rfl ?_
      refine jw_iload_n (pc := 53) (j := 0) dX4_readEnd_53 rfl rfl ?_
      refine jw_bipush (pc := 54) (v := 16) dX4_readEnd_54 rfl ?_
      obtain ⟨j1, hj1, ej1, h⟩ := h
      refine jw_iast (pc := 56) (j := j1) dX4_readEnd_56 sC_18 hj1 ej1 (by decide) ?_
      replace h := h _ rfl
      generalize jrI M2 18 (upd (M2.1 18) j1 (16 : Int32)) = M3 at h ⊢
      refine jw_aload_n (pc := 57) (j := 1) dX4_readEnd_57 rfl rfl ?_
      refine jw_getR (pc := 58) (r := 17) dX4_readEnd_58 sC_16 fl_X4_12 (by decide) rfl rfl ?_
      refine jw_getR (pc := 61) (r := 24) dX4_readEnd_61 sC_17 fl_X4_70 (by decide) rfl rfl ?_
      refine jw_iload_n (pc := 64) (j := 0) dX4_readEnd_64 rfl rfl ?_
      refine jw_aload_n (pc := 65) (j := 1) dX4_readEnd_65 rfl rfl ?_
      refine jw_getR (pc := 66) (r := 28) dX4_readEnd_66 sC_16 fl_X4_25 (by decide) rfl rfl ?_
      refine jw_aload_n (pc := 69) (j := 1) dX4_readEnd_69 rfl rfl ?_
      refine jw_getI (pc := 70) dX4_readEnd_70 sC_16 fl_X4_29 (by decide) rfl ?_
      obtain ⟨j2, hj2, ej2, h⟩ := h
      refine jw_iald (pc := 73) (j := j2) dX4_readEnd_73 sC_28 hj2 ej2 (by decide) ?_
      refine jw_iast (pc := 74) (j := j1) dX4_readEnd_74 sC_24 hj1 ej1 (by decide) ?_
      replace h := h _ rfl
      generalize jrI M3 24 (upd (M3.1 24) j1 (M3.1 28 j2)) = M4 at h ⊢
      refine jw_aload_n (pc := 75) (j := 1) dX4_readEnd_75 rfl rfl ?_
      refine jw_getR (pc := 76) (r := 17) dX4_readEnd_76 sC_16 fl_X4_12 (by decide) rfl rfl ?_
      refine jw_getR (pc := 79) (r := 24) dX4_readEnd_79 sC_17 fl_X4_70 (by decide) rfl rfl ?_
      refine jw_aload_n (pc := 82) (j := 1) dX4_readEnd_82 rfl rfl ?_
      refine jw_getR (pc := 83) (r := 28) dX4_readEnd_83 sC_16 fl_X4_25 (by decide) rfl rfl ?_
      refine jw_aload_n (pc := 86) (j := 1) dX4_readEnd_86 rfl rfl ?_
      refine jw_getI (pc := 87) dX4_readEnd_87 sC_16 fl_X4_29 (by decide) rfl ?_
      obtain ⟨j3, hj3, ej3, h⟩ := h
      refine jw_iald (pc := 90) (j := j3) dX4_readEnd_90 sC_28 hj3 ej3 (by decide) ?_
      refine jw_iload_n (pc := 91) (j := 0) dX4_readEnd_91 rfl rfl ?_
      obtain ⟨j4, hj4, ej4, h⟩ := h
      refine jw_iast (pc := 92) (j := j4) dX4_readEnd_92 sC_24 hj4 ej4 (by decide) ?_
      replace h := h _ rfl
      generalize jrI M4 24 (upd (M4.1 24) j4 (M2.1 17 2)) = M5 at h ⊢
      refine jw_aload_n (pc := 93) (j := 1) dX4_readEnd_93 rfl rfl ?_
      refine jw_getR (pc := 94) (r := 17) dX4_readEnd_94 sC_16 fl_X4_12 (by decide) rfl rfl ?_
      refine jw_dup (pc := 97) dX4_readEnd_97 rfl ?_
      refine jw_getI (pc := 98) dX4_readEnd_98 sC_17 fl_X4_64 (by decide) rfl ?_
      refine jw_iconst (pc := 101) (v := 1) dX4_readEnd_101 rfl ?_
      refine jw_iadd (pc := 102) dX4_readEnd_102 ?_
      refine jw_putI (pc := 103) dX4_readEnd_103 sC_17 fl_X4_64 fw_3_2 (by decide) rfl ?_
      replace h := h _ rfl
      generalize jrI M5 17 (upd (M5.1 17) 2 ((M5.1 17 2) + (1 : Int32))) = M6 at h ⊢
      refine jw_aload_n (pc := 106) (j := 1) dX4_readEnd_106 rfl rfl ?_
      refine jw_getR (pc := 107) (r := 25) dX4_readEnd_107 sC_16 fl_X4_21 (by decide) rfl rfl ?_
      refine jw_bipush (pc := 110) (v := 16) dX4_readEnd_110 rfl ?_
      refine jw_callV (pc := 112) (m2 := mX7_takeWord) (As := [.int (16 : Int32)]) (st := []) dX4_readEnd_112 sC_25 (by decide) rfl rfl gm_X7_takeWord ml_X4_73 rfl (Nat.le_of_ble_eq_true rfl) (JC.mono h ?_)
      clear h
      rintro M7 _ ⟨b2, rfl, h⟩
      refine jw_st (st' := [.int (jb b2)]) rfl ?_
      exact jw_zret (pc := 115) dX4_readEnd_115 rfl (jb_01 _) ⟨_, rfl, h⟩
    · replace h := h.2 c
      refine jw_aload_n (pc := 19) (j := 0) dX4_readEnd_19 rfl rfl ?_
      refine jw_getR (pc := 20) (r := 25) dX4_readEnd_20 sC_16 fl_X4_21 (by decide) rfl rfl ?_
      refine jw_iconst (pc := 23) (v := 2) dX4_readEnd_23 rfl ?_
      refine jw_callV (pc := 24) (m2 := mX7_refuse) (As := [.int (2 : Int32)]) (st := []) dX4_readEnd_24 sC_25 (by decide) rfl rfl gm_X7_refuse ml_X4_60 rfl (Nat.le_of_ble_eq_true rfl) (JC.mono h ?_)
      clear h
      rintro M8 _ ⟨b3, rfl, h⟩
      refine jw_st (st' := [.int (jb b3)]) rfl ?_
      exact jw_zret (pc := 27) dX4_readEnd_27 rfl (jb_01 _) ⟨_, rfl, h⟩
set_option maxRecDepth 20000 in
theorem b_X4_openStep {x : jX} {d : Nat} {M : jM} {P : jM → Bool → Prop}  
    (h : ((M.1 25 3) = (10 : Int32) → JW x jtbC mX4_openStep (d + 1) (jZ P) 25 [(0, .ref (x.2.2.2 16)), (1, .int (M.1 25 3))] [.int (1 : Int32)] M) ∧ (¬ (M.1 25 3) = (10 : Int32) → (¬ (M.1 25 3) = (15 : Int32) → JW x jtbC mX4_openStep (d + 1) (jZ P) 25 [(0, .ref (x.2.2.2 16)), (1, .int (M.1 25 3))] [.int (0 : Int32)] M) ∧ ((M.1 25 3) = (15 : Int32) → JW x jtbC mX4_openStep (d + 1) (jZ P) 25 [(0, .ref (x.2.2.2 16)), (1, .int (M.1 25 3))] [.int (1 : Int32)] M))) :
    JC x jtbC mX4_openStep (d + 1) [.ref (x.2.2.2 16)] M (jZ P) := by
  refine JC.of rfl (Nat.le_of_ble_eq_true rfl) ?_
  refine jw_ls (ls' := [(0, .ref (x.2.2.2 16))]) rfl ?_
  refine jw_aload_n (pc := 0) (j := 0) dX4_openStep_0 rfl rfl ?_
  refine jw_getR (pc := 1) (r := 25) dX4_openStep_1 sC_16 fl_X4_21 (by decide) rfl rfl ?_
  refine jw_getI (pc := 4) dX4_openStep_4 sC_25 fl_X4_43 (by decide) rfl ?_
  refine jw_istore_n (pc := 7) (ls' := [(1, .int (M.1 25 3)), (0, .ref (x.2.2.2 16))]) dX4_openStep_7 rfl (by decide) rfl ?_
  refine jw_iload_n (pc := 8) (j := 0) dX4_openStep_8 rfl rfl ?_
  refine jw_bipush (pc := 9) (v := 10) dX4_openStep_9 rfl ?_
  refine jw_icmp_eq (pc := 11) (tgt := 20) dX4_openStep_11 (by decide) (fun c => ?_) (fun c => ?_)
  · replace h := h.1 c
    refine jw_iconst (pc := 20) (v := 1) dX4_openStep_20 rfl ?_
    refine jw_goto (pc := 21) (tgt := 25) dX4_openStep_21 (by decide) ?_
    exact jw_sub [1, 0] rfl h
  · replace h := h.2 c
    refine jw_iload_n (pc := 14) (j := 0) dX4_openStep_14 rfl rfl ?_
    refine jw_bipush (pc := 15) (v := 15) dX4_openStep_15 rfl ?_
    refine jw_icmp_ne (pc := 17) (tgt := 24) dX4_openStep_17 (by decide) (fun c => ?_) (fun c => ?_)
    · replace h := h.1 c
      refine jw_iconst (pc := 24) (v := 0) dX4_openStep_24 rfl ?_
      exact jw_sub [1, 0] rfl h
    · replace h := h.2 c
      refine jw_iconst (pc := 20) (v := 1) dX4_openStep_20 rfl ?_
      refine jw_goto (pc := 21) (tgt := 25) dX4_openStep_21 (by decide) ?_
      exact jw_sub [1, 0] rfl h
set_option maxRecDepth 20000 in
theorem b_X4_openStep_25 {x : jX} {d : Nat} {M : jM} {P : jM → Bool → Prop} {l1 : Int32} {k0 : Int32} 
    (h : (¬ k0 = 0 → JW x jtbC mX4_openStep (d + 1) (jZ P) 63 [(0, .ref (x.2.2.2 16)), (1, .int l1), (2, .int k0)] [] M) ∧ (k0 = 0 → (l1 = (6 : Int32) → JW x jtbC mX4_openStep (d + 1) (jZ P) 63 [(0, .ref (x.2.2.2 16)), (1, .int l1), (2, .int k0)] [] M) ∧ (¬ l1 = (6 : Int32) → (l1 = (7 : Int32) → JW x jtbC mX4_openStep (d + 1) (jZ P) 63 [(0, .ref (x.2.2.2 16)), (1, .int l1), (2, .int k0)] [] M) ∧ (¬ l1 = (7 : Int32) → (l1 = (9 : Int32) → JW x jtbC mX4_openStep (d + 1) (jZ P) 63 [(0, .ref (x.2.2.2 16)), (1, .int l1), (2, .int k0)] [] M) ∧ (¬ l1 = (9 : Int32) → (l1 = (17 : Int32) → JW x jtbC mX4_openStep (d + 1) (jZ P) 63 [(0, .ref (x.2.2.2 16)), (1, .int l1), (2, .int k0)] [] M) ∧ (¬ l1 = (17 : Int32) → JC x jtbC mX7_refuse d [.ref (x.2.2.2 25), .int (2 : Int32)] M (jZ fun M1 b1 => P M1 b1))))))) :
    JW x jtbC mX4_openStep (d + 1) (jZ P) 25 [(0, .ref (x.2.2.2 16)), (1, .int l1)] [.int k0] M := by
  refine jw_istore_n (pc := 25) (ls' := [(2, .int k0), (0, .ref (x.2.2.2 16)), (1, .int l1)]) dX4_openStep_25 rfl (by decide) rfl ?_
  refine jw_iload_n (pc := 26) (j := 0) dX4_openStep_26 rfl rfl ?_
  refine jw_if_ne (pc := 27) (tgt := 63) dX4_openStep_27 (by decide) (fun c => ?_) (fun c => ?_)
  · replace h := h.1 c
    exact jw_sub [1, 2, 0] rfl h
  · replace h := h.2 c
    refine jw_iload_n (pc := 30) (j := 2) dX4_openStep_30 rfl rfl ?_
    refine jw_bipush (pc := 31) (v := 6) dX4_openStep_31 rfl ?_
    refine jw_icmp_eq (pc := 33) (tgt := 63) dX4_openStep_33 (by decide) (fun c => ?_) (fun c => ?_)
    · replace h := h.1 c
      exact jw_sub [1, 2, 0] rfl h
    · replace h := h.2 c
      refine jw_iload_n (pc := 36) (j := 2) dX4_openStep_36 rfl rfl ?_
      refine jw_bipush (pc := 37) (v := 7) dX4_openStep_37 rfl ?_
      refine jw_icmp_eq (pc := 39) (tgt := 63) dX4_openStep_39 (by decide) (fun c => ?_) (fun c => ?_)
      · replace h := h.1 c
        exact jw_sub [1, 2, 0] rfl h
      · replace h := h.2 c
        refine jw_iload_n (pc := 42) (j := 2) dX4_openStep_42 rfl rfl ?_
        refine jw_bipush (pc := 43) (v := 9) dX4_openStep_43 rfl ?_
        refine jw_icmp_eq (pc := 45) (tgt := 63) dX4_openStep_45 (by decide) (fun c => ?_) (fun c => ?_)
        · replace h := h.1 c
          exact jw_sub [1, 2, 0] rfl h
        · replace h := h.2 c
          refine jw_iload_n (pc := 48) (j := 2) dX4_openStep_48 rfl rfl ?_
          refine jw_bipush (pc := 49) (v := 17) dX4_openStep_49 rfl ?_
          refine jw_icmp_eq (pc := 51) (tgt := 63) dX4_openStep_51 (by decide) (fun c => ?_) (fun c => ?_)
          · replace h := h.1 c
            exact jw_sub [1, 2, 0] rfl h
          · replace h := h.2 c
            refine jw_aload_n (pc := 54) (j := 1) dX4_openStep_54 rfl rfl ?_
            refine jw_getR (pc := 55) (r := 25) dX4_openStep_55 sC_16 fl_X4_21 (by decide) rfl rfl ?_
            refine jw_iconst (pc := 58) (v := 2) dX4_openStep_58 rfl ?_
            refine jw_callV (pc := 59) (m2 := mX7_refuse) (As := [.int (2 : Int32)]) (st := []) dX4_openStep_59 sC_25 (by decide) rfl rfl gm_X7_refuse ml_X4_60 rfl (Nat.le_of_ble_eq_true rfl) (JC.mono h ?_)
            clear h
            rintro M1 _ ⟨b1, rfl, h⟩
            refine jw_st (st' := [.int (jb b1)]) rfl ?_
            exact jw_zret (pc := 62) dX4_openStep_62 rfl (jb_01 _) ⟨_, rfl, h⟩
set_option maxRecDepth 20000 in
theorem b_X4_openStep_63 {x : jX} {d : Nat} {M : jM} {P : jM → Bool → Prop} {l1 : Int32} {l2 : Int32} 
    (h : ((30 : Int32) ≤ (M.1 17 1) → JC x jtbC mX7_refuse d [.ref (x.2.2.2 25), .int (6 : Int32)] M (jZ fun M1 b1 => P M1 b1)) ∧ (¬ (30 : Int32) ≤ (M.1 17 1) → ((M.1 17 2) < (60 : Int32) → (l2 = 0 → JW x jtbC mX4_openStep (d + 1) (jZ P) 119 [(0, .ref (x.2.2.2 16)), (1, .int l1), (2, .int l2)] [] M) ∧ (¬ l2 = 0 → ((M.1 16 3) < (3 : Int32) → JW x jtbC mX4_openStep (d + 1) (jZ P) 119 [(0, .ref (x.2.2.2 16)), (1, .int l1), (2, .int l2)] [] M) ∧ (¬ (M.1 16 3) < (3 : Int32) → JC x jtbC mX7_refuse d [.ref (x.2.2.2 25), .int (7 : Int32)] M (jZ fun M2 b2 => P M2 b2)))) ∧ (¬ (M.1 17 2) < (60 : Int32) → JC x jtbC mX7_refuse d [.ref (x.2.2.2 25), .int (6 : Int32)] M (jZ fun M3 b3 => P M3 b3)))) :
    JW x jtbC mX4_openStep (d + 1) (jZ P) 63 [(0, .ref (x.2.2.2 16)), (1, .int l1), (2, .int l2)] [] M := by
  refine jw_aload_n (pc := 63) (j := 0) dX4_openStep_63 rfl rfl ?_
  refine jw_getR (pc := 64) (r := 17) dX4_openStep_64 sC_16 fl_X4_12 (by decide) rfl rfl ?_
  refine jw_getI (pc := 67) dX4_openStep_67 sC_17 fl_X4_76 (by decide) rfl ?_
  refine jw_bipush (pc := 70) (v := 30) dX4_openStep_70 rfl ?_
  refine jw_icmp_ge (pc := 72) (tgt := 87) dX4_openStep_72 (by decide) (fun c => ?_) (fun c => ?_)
  · replace h := h.1 c
    refine jw_aload_n (pc := 87) (j := 0) dX4_openStep_87 rfl rfl ?_
    refine jw_getR (pc := 88) (r := 25) dX4_openStep_88 sC_16 fl_X4_21 (by decide) rfl rfl ?_
    refine jw_bipush (pc := 91) (v := 6) dX4_openStep_91 rfl ?_
    refine jw_callV (pc := 93) (m2 := mX7_refuse) (As := [.int (6 : Int32)]) (st := []) dX4_openStep_93 sC_25 (by decide) rfl rfl gm_X7_refuse ml_X4_60 rfl (Nat.le_of_ble_eq_true rfl) (JC.mono h ?_)
    clear h
    rintro M1 _ ⟨b1, rfl, h⟩
    refine jw_st (st' := [.int (jb b1)]) rfl ?_
    exact jw_zret (pc := 96) dX4_openStep_96 rfl (jb_01 _) ⟨_, rfl, h⟩
  · replace h := h.2 c
    refine jw_aload_n (pc := 75) (j := 0) dX4_openStep_75 rfl rfl ?_
    refine jw_getR (pc := 76) (r := 17) dX4_openStep_76 sC_16 fl_X4_12 (by decide) rfl rfl ?_
    refine jw_getI (pc := 79) dX4_openStep_79 sC_17 fl_X4_64 (by decide) rfl ?_
    refine jw_bipush (pc := 82) (v := 60) dX4_openStep_82 rfl ?_
    refine jw_icmp_lt (pc := 84) (tgt := 97) dX4_openStep_84 (by decide) (fun c => ?_) (fun c => ?_)
    · replace h := h.1 c
      refine jw_iload_n (pc := 97) (j := 2) dX4_openStep_97 rfl rfl ?_
      refine jw_if_eq (pc := 98) (tgt := 119) dX4_openStep_98 (by decide) (fun c => ?_) (fun c => ?_)
      · replace h := h.1 c
        exact jw_sub [0, 1, 2] rfl h
      · replace h := h.2 c
        refine jw_aload_n (pc := 101) (j := 0) dX4_openStep_101 rfl rfl ?_
        refine jw_getI (pc := 102) dX4_openStep_102 sC_16 fl_X4_29 (by decide) rfl ?_
        refine jw_iconst (pc := 105) (v := 3) dX4_openStep_105 rfl ?_
        refine jw_icmp_lt (pc := 106) (tgt := 119) dX4_openStep_106 (by decide) (fun c => ?_) (fun c => ?_)
        · replace h := h.1 c
          exact jw_sub [0, 1, 2] rfl h
        · replace h := h.2 c
          refine jw_aload_n (pc := 109) (j := 0) dX4_openStep_109 rfl rfl ?_
          refine jw_getR (pc := 110) (r := 25) dX4_openStep_110 sC_16 fl_X4_21 (by decide) rfl rfl ?_
          refine jw_bipush (pc := 113) (v := 7) dX4_openStep_113 rfl ?_
          refine jw_callV (pc := 115) (m2 := mX7_refuse) (As := [.int (7 : Int32)]) (st := []) dX4_openStep_115 sC_25 (by decide) rfl rfl gm_X7_refuse ml_X4_60 rfl (Nat.le_of_ble_eq_true rfl) (JC.mono h ?_)
          clear h
          rintro M2 _ ⟨b2, rfl, h⟩
          refine jw_st (st' := [.int (jb b2)]) rfl ?_
          exact jw_zret (pc := 118) dX4_openStep_118 rfl (jb_01 _) ⟨_, rfl, h⟩
    · replace h := h.2 c
      refine jw_aload_n (pc := 87) (j := 0) dX4_openStep_87 rfl rfl ?_
      refine jw_getR (pc := 88) (r := 25) dX4_openStep_88 sC_16 fl_X4_21 (by decide) rfl rfl ?_
      refine jw_bipush (pc := 91) (v := 6) dX4_openStep_91 rfl ?_
      refine jw_callV (pc := 93) (m2 := mX7_refuse) (As := [.int (6 : Int32)]) (st := []) dX4_openStep_93 sC_25 (by decide) rfl rfl gm_X7_refuse ml_X4_60 rfl (Nat.le_of_ble_eq_true rfl) (JC.mono h ?_)
      clear h
      rintro M3 _ ⟨b3, rfl, h⟩
      refine jw_st (st' := [.int (jb b3)]) rfl ?_
      exact jw_zret (pc := 96) dX4_openStep_96 rfl (jb_01 _) ⟨_, rfl, h⟩
set_option maxRecDepth 20000 in
theorem b_X4_openStep_119 {x : jX} {d : Nat} {M : jM} {P : jM → Bool → Prop} {l1 : Int32} {l2 : Int32} 
    (h : (l2 = 0 → JW x jtbC mX4_openStep (d + 1) (jZ P) 151 [(0, .ref (x.2.2.2 16)), (1, .int l1), (3, .int (M.1 17 2))] [] M) ∧ (¬ l2 = 0 → ∃ j1, j1 < 3 ∧ M.1 16 3 = nI j1 ∧ (∀ M1, M1 = jrI M 28 (upd (M.1 28) j1 (M.1 17 2)) → ∀ M2, M2 = jrI M1 16 (upd (M1.1 16) 3 ((M1.1 16 3) + (1 : Int32))) → JW x jtbC mX4_openStep (d + 1) (jZ P) 151 [(0, .ref (x.2.2.2 16)), (1, .int l1), (3, .int (M.1 17 2))] [] M2))) :
    JW x jtbC mX4_openStep (d + 1) (jZ P) 119 [(0, .ref (x.2.2.2 16)), (1, .int l1), (2, .int l2)] [] M := by
  refine jw_aload_n (pc := 119) (j := 0) dX4_openStep_119 rfl rfl ?_
  refine jw_getR (pc := 120) (r := 17) dX4_openStep_120 sC_16 fl_X4_12 (by decide) rfl rfl ?_
  refine jw_getI (pc := 123) dX4_openStep_123 sC_17 fl_X4_64 (by decide) rfl ?_
  refine jw_istore_n (pc := 126) (ls' := [(3, .int (M.1 17 2)), (0, .ref (x.2.2.2 16)), (1, .int l1), (2, .int l2)]) dX4_openStep_126 rfl (by decide) rfl ?_
  refine jw_iload_n (pc := 127) (j := 3) dX4_openStep_127 rfl rfl ?_
  refine jw_if_eq (pc := 128) (tgt := 151) dX4_openStep_128 (by decide) (fun c => ?_) (fun c => ?_)
  · replace h := h.1 c
    exact jw_sub [1, 2, 0] rfl h
  · replace h := h.2 c
    refine jw_aload_n (pc := 131) (j := 1) dX4_openStep_131 rfl rfl ?_
    refine jw_getR (pc := 132) (r := 28) dX4_openStep_132 sC_16 fl_X4_25 (by decide) rfl rfl ?_
    refine jw_aload_n (pc := 135) (j := 1) dX4_openStep_135 rfl rfl ?_
    refine jw_getI (pc := 136) dX4_openStep_136 sC_16 fl_X4_29 (by decide) rfl ?_
    refine jw_iload_n (pc := 139) (j := 0) dX4_openStep_139 rfl rfl ?_
    obtain ⟨j1, hj1, ej1, h⟩ := h
    refine jw_iast (pc := 140) (j := j1) dX4_openStep_140 sC_28 hj1 ej1 (by decide) ?_
    replace h := h _ rfl
    generalize jrI M 28 (upd (M.1 28) j1 (M.1 17 2)) = M1 at h ⊢
    refine jw_aload_n (pc := 141) (j := 1) dX4_openStep_141 rfl rfl ?_
    refine jw_dup (pc := 142) dX4_openStep_142 rfl ?_
    refine jw_getI (pc := 143) dX4_openStep_143 sC_16 fl_X4_29 (by decide) rfl ?_
    refine jw_iconst (pc := 146) (v := 1) dX4_openStep_146 rfl ?_
    refine jw_iadd (pc := 147) dX4_openStep_147 ?_
    refine jw_putI (pc := 148) dX4_openStep_148 sC_16 fl_X4_29 fw_4_3 (by decide) rfl ?_
    replace h := h _ rfl
    generalize jrI M1 16 (upd (M1.1 16) 3 ((M1.1 16 3) + (1 : Int32))) = M2 at h ⊢
    exact jw_sub [1, 2, 0] rfl h
set_option maxRecDepth 20000 in
theorem b_X4_openStep_151 {x : jX} {d : Nat} {M : jM} {P : jM → Bool → Prop} {l1 : Int32} {l3 : Int32} 
    (h : ∃ j1, j1 < 60 ∧ l3 = nI j1 ∧ (∀ M1, M1 = jrI M 18 (upd (M.1 18) j1 l1) → ∀ M2, M2 = jrI M1 17 (upd (M1.1 17) 1 ((M1.1 17 1) + (1 : Int32))) → ∀ M3, M3 = jrI M2 17 (upd (M2.1 17) 2 ((M2.1 17 2) + (1 : Int32))) → JC x jtbC mX7_step d [.ref (x.2.2.2 25)] M3 (jV fun M4 => P M4 true))) :
    JW x jtbC mX4_openStep (d + 1) (jZ P) 151 [(0, .ref (x.2.2.2 16)), (1, .int l1), (3, .int l3)] [] M := by
  refine jw_aload_n (pc := 151) (j := 0) dX4_openStep_151 rfl rfl ?_
  refine jw_getR (pc := 152) (r := 17) dX4_openStep_152 sC_16 fl_X4_12 (by decide) rfl rfl ?_
  refine jw_getR (pc := 155) (r := 18) dX4_openStep_155 sC_17 fl_X4_67 (by decide) rfl rfl ?_
  refine jw_iload_n (pc := 158) (j := 2) dX4_openStep_158 rfl rfl ?_
  refine jw_iload_n (pc := 159) (j := 1) dX4_openStep_159 rfl rfl ?_
  obtain ⟨j1, hj1, ej1, h⟩ := h
  refine jw_iast (pc := 160) (j := j1) dX4_openStep_160 sC_18 hj1 ej1 (by decide) ?_
  replace h := h _ rfl
  generalize jrI M 18 (upd (M.1 18) j1 l1) = M1 at h ⊢
  refine jw_aload_n (pc := 161) (j := 0) dX4_openStep_161 rfl rfl ?_
  refine jw_getR (pc := 162) (r := 17) dX4_openStep_162 sC_16 fl_X4_12 (by decide) rfl rfl ?_
  refine jw_dup (pc := 165) dX4_openStep_165 rfl ?_
  refine jw_getI (pc := 166) dX4_openStep_166 sC_17 fl_X4_76 (by decide) rfl ?_
  refine jw_iconst (pc := 169) (v := 1) dX4_openStep_169 rfl ?_
  refine jw_iadd (pc := 170) dX4_openStep_170 ?_
  refine jw_putI (pc := 171) dX4_openStep_171 sC_17 fl_X4_76 fw_3_1 (by decide) rfl ?_
  replace h := h _ rfl
  generalize jrI M1 17 (upd (M1.1 17) 1 ((M1.1 17 1) + (1 : Int32))) = M2 at h ⊢
  refine jw_aload_n (pc := 174) (j := 0) dX4_openStep_174 rfl rfl ?_
  refine jw_getR (pc := 175) (r := 17) dX4_openStep_175 sC_16 fl_X4_12 (by decide) rfl rfl ?_
  refine jw_dup (pc := 178) dX4_openStep_178 rfl ?_
  refine jw_getI (pc := 179) dX4_openStep_179 sC_17 fl_X4_64 (by decide) rfl ?_
  refine jw_iconst (pc := 182) (v := 1) dX4_openStep_182 rfl ?_
  refine jw_iadd (pc := 183) dX4_openStep_183 ?_
  refine jw_putI (pc := 184) dX4_openStep_184 sC_17 fl_X4_64 fw_3_2 (by decide) rfl ?_
  replace h := h _ rfl
  generalize jrI M2 17 (upd (M2.1 17) 2 ((M2.1 17 2) + (1 : Int32))) = M3 at h ⊢
  refine jw_aload_n (pc := 187) (j := 0) dX4_openStep_187 rfl rfl ?_
  refine jw_getR (pc := 188) (r := 25) dX4_openStep_188 sC_16 fl_X4_21 (by decide) rfl rfl ?_
  refine jw_callV (pc := 191) (m2 := mX7_step) (As := []) (st := []) dX4_openStep_191 sC_25 (by decide) rfl rfl gm_X7_step ml_X4_79 rfl (Nat.le_of_ble_eq_true rfl) (JC.mono h ?_)
  clear h
  rintro M4 _ ⟨rfl, h⟩
  refine jw_st (st' := []) rfl ?_
  refine jw_iconst (pc := 194) (v := 1) dX4_openStep_194 rfl ?_
  exact jw_zret (pc := 195) dX4_openStep_195 rfl (Or.inr rfl) ⟨true, rfl, h⟩
set_option maxRecDepth 20000 in
theorem b_X4_readRest {x : jX} {d : Nat} {M : jM} {P : jM → Bool → Prop}  
    (h : ∃ j1, j1 < 60 ∧ (M.1 17 2) - (1 : Int32) = nI j1 ∧ (((M.1 18 j1) = 6 → JC x jtbC mX4_readCell d [.ref (x.2.2.2 16), .ref (x.2.2.2 30), .int ((M.1 17 2) - (1 : Int32))] M (jZ fun M1 b1 => (b1 = false → P M1 false) ∧ (b1 = true → JC x jtbC mX4_readBy d [.ref (x.2.2.2 16), .int ((M.1 17 2) - (1 : Int32))] M1 (jZ fun M2 b2 => (b2 = false → P M2 false) ∧ (b2 = true → P M2 true))))) ∧ (¬ (M.1 18 j1) = 6 → ((M.1 18 j1) = 7 → JC x jtbC mX4_readCell d [.ref (x.2.2.2 16), .ref (x.2.2.2 30), .int ((M.1 17 2) - (1 : Int32))] M (jZ fun M3 b3 => (b3 = false → P M3 false) ∧ (b3 = true → JC x jtbC mX4_readBy d [.ref (x.2.2.2 16), .int ((M.1 17 2) - (1 : Int32))] M3 (jZ fun M4 b4 => (b4 = false → P M4 false) ∧ (b4 = true → P M4 true))))) ∧ (¬ (M.1 18 j1) = 7 → ((M.1 18 j1) = 8 → P M true) ∧ (¬ (M.1 18 j1) = 8 → ((M.1 18 j1) = 9 → JC x jtbC mX4_readNumber d [.ref (x.2.2.2 16), .int ((M.1 17 2) - (1 : Int32)), .int (1 : Int32), .int (99 : Int32)] M (jZ fun M5 b5 => P M5 b5)) ∧ (¬ (M.1 18 j1) = 9 → ((M.1 18 j1) = 10 → JC x jtbC mX4_readTest d [.ref (x.2.2.2 16), .ref (x.2.2.2 30), .int ((M.1 17 2) - (1 : Int32))] M (jZ fun M6 b6 => P M6 b6)) ∧ (¬ (M.1 18 j1) = 10 → ((M.1 18 j1) = 11 → P M true) ∧ (¬ (M.1 18 j1) = 11 → ((M.1 18 j1) = 12 → P M true) ∧ (¬ (M.1 18 j1) = 12 → ((M.1 18 j1) = 13 → P M true) ∧ (¬ (M.1 18 j1) = 13 → ((M.1 18 j1) = 14 → P M true) ∧ (¬ (M.1 18 j1) = 14 → ((M.1 18 j1) = 15 → JC x jtbC mX4_readNumber d [.ref (x.2.2.2 16), .int ((M.1 17 2) - (1 : Int32)), .int (1 : Int32), .int (99 : Int32)] M (jZ fun M7 b7 => P M7 b7)) ∧ (¬ (M.1 18 j1) = 15 → P M true)))))))))))) :
    JC x jtbC mX4_readRest (d + 1) [.ref (x.2.2.2 16), .ref (x.2.2.2 30)] M (jZ P) := by
  refine JC.of rfl (Nat.le_of_ble_eq_true rfl) ?_
  refine jw_ls (ls' := [(0, .ref (x.2.2.2 16)), (1, .ref (x.2.2.2 30))]) rfl ?_
  refine jw_aload_n (pc := 0) (j := 0) dX4_readRest_0 rfl rfl ?_
  refine jw_getR (pc := 1) (r := 17) dX4_readRest_1 sC_16 fl_X4_12 (by decide) rfl rfl ?_
  refine jw_getI (pc := 4) dX4_readRest_4 sC_17 fl_X4_64 (by decide) rfl ?_
  refine jw_iconst (pc := 7) (v := 1) dX4_readRest_7 rfl ?_
  refine jw_isub (pc := 8) dX4_readRest_8 ?_
  refine jw_istore_n (pc := 9) (ls' := [(2, .int ((M.1 17 2) - (1 : Int32))), (0, .ref (x.2.2.2 16)), (1, .ref (x.2.2.2 30))]) dX4_readRest_9 rfl (by decide) rfl ?_
  refine jw_aload_n (pc := 10) (j := 1) dX4_readRest_10 rfl rfl ?_
  refine jw_getR (pc := 11) (r := 17) dX4_readRest_11 sC_16 fl_X4_12 (by decide) rfl rfl ?_
  refine jw_getR (pc := 14) (r := 18) dX4_readRest_14 sC_17 fl_X4_67 (by decide) rfl rfl ?_
  refine jw_iload_n (pc := 17) (j := 0) dX4_readRest_17 rfl rfl ?_
  obtain ⟨j1, hj1, ej1, h⟩ := h
  refine jw_iald (pc := 18) (j := j1) dX4_readRest_18 sC_18 hj1 ej1 (by decide) ?_
  refine (Decidable.em ((M.1 18 j1) = 6)).elim (fun c0 => ?_) (fun c0 => ?_)
  · replace h := h.1 c0
    refine jw_tableIn (pc := 19) (tgt := 72) dX4_readRest_19 (by rw [c0]; decide) (by rw [c0]; decide) (by rw [c0]; rfl) (by decide) ?_
    refine jw_aload_n (pc := 72) (j := 1) dX4_readRest_72 rfl rfl ?_
    refine jw_aload_n (pc := 73) (j := 2) dX4_readRest_73 rfl rfl ?_
    refine jw_iload_n (pc := 74) (j := 0) dX4_readRest_74 rfl rfl ?_
    refine jw_callV (pc := 75) (m2 := mX4_readCell) (As := [.ref (x.2.2.2 30), .int ((M.1 17 2) - (1 : Int32))]) (st := []) dX4_readRest_75 sC_16 (by decide) rfl rfl gm_X4_readCell ml_X4_82 rfl (Nat.le_of_ble_eq_true rfl) (JC.mono h ?_)
    clear h
    rintro M1 _ ⟨b1, rfl, h⟩
    refine jw_st (st' := [.int (jb b1)]) rfl ?_
    refine jw_if_eq (pc := 78) (tgt := 93) dX4_readRest_78 (by decide) (fun c => ?_) (fun c => ?_)
    · replace h := h.1 ((jb_0 _).mp c)
      refine jw_iconst (pc := 93) (v := 0) dX4_readRest_93 rfl ?_
      exact jw_zret (pc := 94) dX4_readRest_94 rfl (Or.inl rfl) ⟨false, rfl, h⟩
    · replace h := h.2 (jb_ne c)
      refine jw_aload_n (pc := 81) (j := 1) dX4_readRest_81 rfl rfl ?_
      refine jw_iload_n (pc := 82) (j := 0) dX4_readRest_82 rfl rfl ?_
      refine jw_callV (pc := 83) (m2 := mX4_readBy) (As := [.int ((M.1 17 2) - (1 : Int32))]) (st := []) dX4_readRest_83 sC_16 (by decide) rfl rfl gm_X4_readBy ml_X4_86 rfl (Nat.le_of_ble_eq_true rfl) (JC.mono h ?_)
      clear h
      rintro M2 _ ⟨b2, rfl, h⟩
      refine jw_st (st' := [.int (jb b2)]) rfl ?_
      refine jw_if_eq (pc := 86) (tgt := 93) dX4_readRest_86 (by decide) (fun c => ?_) (fun c => ?_)
      · replace h := h.1 ((jb_0 _).mp c)
        refine jw_iconst (pc := 93) (v := 0) dX4_readRest_93 rfl ?_
        exact jw_zret (pc := 94) dX4_readRest_94 rfl (Or.inl rfl) ⟨false, rfl, h⟩
      · replace h := h.2 (jb_ne c)
        refine jw_iconst (pc := 89) (v := 1) dX4_readRest_89 rfl ?_
        refine jw_goto (pc := 90) (tgt := 94) dX4_readRest_90 (by decide) ?_
        exact jw_zret (pc := 94) dX4_readRest_94 rfl (Or.inr rfl) ⟨true, rfl, h⟩
  · replace h := h.2 c0
    refine (Decidable.em ((M.1 18 j1) = 7)).elim (fun c1 => ?_) (fun c1 => ?_)
    · replace h := h.1 c1
      refine jw_tableIn (pc := 19) (tgt := 72) dX4_readRest_19 (by rw [c1]; decide) (by rw [c1]; decide) (by rw [c1]; rfl) (by decide) ?_
      refine jw_aload_n (pc := 72) (j := 1) dX4_readRest_72 rfl rfl ?_
      refine jw_aload_n (pc := 73) (j := 2) dX4_readRest_73 rfl rfl ?_
      refine jw_iload_n (pc := 74) (j := 0) dX4_readRest_74 rfl rfl ?_
      refine jw_callV (pc := 75) (m2 := mX4_readCell) (As := [.ref (x.2.2.2 30), .int ((M.1 17 2) - (1 : Int32))]) (st := []) dX4_readRest_75 sC_16 (by decide) rfl rfl gm_X4_readCell ml_X4_82 rfl (Nat.le_of_ble_eq_true rfl) (JC.mono h ?_)
      clear h
      rintro M3 _ ⟨b3, rfl, h⟩
      refine jw_st (st' := [.int (jb b3)]) rfl ?_
      refine jw_if_eq (pc := 78) (tgt := 93) dX4_readRest_78 (by decide) (fun c => ?_) (fun c => ?_)
      · replace h := h.1 ((jb_0 _).mp c)
        refine jw_iconst (pc := 93) (v := 0) dX4_readRest_93 rfl ?_
        exact jw_zret (pc := 94) dX4_readRest_94 rfl (Or.inl rfl) ⟨false, rfl, h⟩
      · replace h := h.2 (jb_ne c)
        refine jw_aload_n (pc := 81) (j := 1) dX4_readRest_81 rfl rfl ?_
        refine jw_iload_n (pc := 82) (j := 0) dX4_readRest_82 rfl rfl ?_
        refine jw_callV (pc := 83) (m2 := mX4_readBy) (As := [.int ((M.1 17 2) - (1 : Int32))]) (st := []) dX4_readRest_83 sC_16 (by decide) rfl rfl gm_X4_readBy ml_X4_86 rfl (Nat.le_of_ble_eq_true rfl) (JC.mono h ?_)
        clear h
        rintro M4 _ ⟨b4, rfl, h⟩
        refine jw_st (st' := [.int (jb b4)]) rfl ?_
        refine jw_if_eq (pc := 86) (tgt := 93) dX4_readRest_86 (by decide) (fun c => ?_) (fun c => ?_)
        · replace h := h.1 ((jb_0 _).mp c)
          refine jw_iconst (pc := 93) (v := 0) dX4_readRest_93 rfl ?_
          exact jw_zret (pc := 94) dX4_readRest_94 rfl (Or.inl rfl) ⟨false, rfl, h⟩
        · replace h := h.2 (jb_ne c)
          refine jw_iconst (pc := 89) (v := 1) dX4_readRest_89 rfl ?_
          refine jw_goto (pc := 90) (tgt := 94) dX4_readRest_90 (by decide) ?_
          exact jw_zret (pc := 94) dX4_readRest_94 rfl (Or.inr rfl) ⟨true, rfl, h⟩
    · replace h := h.2 c1
      refine (Decidable.em ((M.1 18 j1) = 8)).elim (fun c2 => ?_) (fun c2 => ?_)
      · replace h := h.1 c2
        refine jw_tableIn (pc := 19) (tgt := 111) dX4_readRest_19 (by rw [c2]; decide) (by rw [c2]; decide) (by rw [c2]; rfl) (by decide) ?_
        refine jw_iconst (pc := 111) (v := 1) dX4_readRest_111 rfl ?_
        exact jw_zret (pc := 112) dX4_readRest_112 rfl (Or.inr rfl) ⟨true, rfl, h⟩
      · replace h := h.2 c2
        refine (Decidable.em ((M.1 18 j1) = 9)).elim (fun c3 => ?_) (fun c3 => ?_)
        · replace h := h.1 c3
          refine jw_tableIn (pc := 19) (tgt := 95) dX4_readRest_19 (by rw [c3]; decide) (by rw [c3]; decide) (by rw [c3]; rfl) (by decide) ?_
          refine jw_aload_n (pc := 95) (j := 1) dX4_readRest_95 rfl rfl ?_
          refine jw_iload_n (pc := 96) (j := 0) dX4_readRest_96 rfl rfl ?_
          refine jw_iconst (pc := 97) (v := 1) dX4_readRest_97 rfl ?_
          refine jw_bipush (pc := 98) (v := 99) dX4_readRest_98 rfl ?_
          refine jw_callV (pc := 100) (m2 := mX4_readNumber) (As := [.int ((M.1 17 2) - (1 : Int32)), .int (1 : Int32), .int (99 : Int32)]) (st := []) dX4_readRest_100 sC_16 (by decide) rfl rfl gm_X4_readNumber ml_X4_89 rfl (Nat.le_of_ble_eq_true rfl) (JC.mono h ?_)
          clear h
          rintro M5 _ ⟨b5, rfl, h⟩
          refine jw_st (st' := [.int (jb b5)]) rfl ?_
          exact jw_zret (pc := 103) dX4_readRest_103 rfl (jb_01 _) ⟨_, rfl, h⟩
        · replace h := h.2 c3
          refine (Decidable.em ((M.1 18 j1) = 10)).elim (fun c4 => ?_) (fun c4 => ?_)
          · replace h := h.1 c4
            refine jw_tableIn (pc := 19) (tgt := 104) dX4_readRest_19 (by rw [c4]; decide) (by rw [c4]; decide) (by rw [c4]; rfl) (by decide) ?_
            refine jw_aload_n (pc := 104) (j := 1) dX4_readRest_104 rfl rfl ?_
            refine jw_aload_n (pc := 105) (j := 2) dX4_readRest_105 rfl rfl ?_
            refine jw_iload_n (pc := 106) (j := 0) dX4_readRest_106 rfl rfl ?_
            refine jw_callV (pc := 107) (m2 := mX4_readTest) (As := [.ref (x.2.2.2 30), .int ((M.1 17 2) - (1 : Int32))]) (st := []) dX4_readRest_107 sC_16 (by decide) rfl rfl gm_X4_readTest ml_X4_93 rfl (Nat.le_of_ble_eq_true rfl) (JC.mono h ?_)
            clear h
            rintro M6 _ ⟨b6, rfl, h⟩
            refine jw_st (st' := [.int (jb b6)]) rfl ?_
            exact jw_zret (pc := 110) dX4_readRest_110 rfl (jb_01 _) ⟨_, rfl, h⟩
          · replace h := h.2 c4
            refine (Decidable.em ((M.1 18 j1) = 11)).elim (fun c5 => ?_) (fun c5 => ?_)
            · replace h := h.1 c5
              refine jw_tableIn (pc := 19) (tgt := 111) dX4_readRest_19 (by rw [c5]; decide) (by rw [c5]; decide) (by rw [c5]; rfl) (by decide) ?_
              refine jw_iconst (pc := 111) (v := 1) dX4_readRest_111 rfl ?_
              exact jw_zret (pc := 112) dX4_readRest_112 rfl (Or.inr rfl) ⟨true, rfl, h⟩
            · replace h := h.2 c5
              refine (Decidable.em ((M.1 18 j1) = 12)).elim (fun c6 => ?_) (fun c6 => ?_)
              · replace h := h.1 c6
                refine jw_tableIn (pc := 19) (tgt := 111) dX4_readRest_19 (by rw [c6]; decide) (by rw [c6]; decide) (by rw [c6]; rfl) (by decide) ?_
                refine jw_iconst (pc := 111) (v := 1) dX4_readRest_111 rfl ?_
                exact jw_zret (pc := 112) dX4_readRest_112 rfl (Or.inr rfl) ⟨true, rfl, h⟩
              · replace h := h.2 c6
                refine (Decidable.em ((M.1 18 j1) = 13)).elim (fun c7 => ?_) (fun c7 => ?_)
                · replace h := h.1 c7
                  refine jw_tableIn (pc := 19) (tgt := 111) dX4_readRest_19 (by rw [c7]; decide) (by rw [c7]; decide) (by rw [c7]; rfl) (by decide) ?_
                  refine jw_iconst (pc := 111) (v := 1) dX4_readRest_111 rfl ?_
                  exact jw_zret (pc := 112) dX4_readRest_112 rfl (Or.inr rfl) ⟨true, rfl, h⟩
                · replace h := h.2 c7
                  refine (Decidable.em ((M.1 18 j1) = 14)).elim (fun c8 => ?_) (fun c8 => ?_)
                  · replace h := h.1 c8
                    refine jw_tableIn (pc := 19) (tgt := 111) dX4_readRest_19 (by rw [c8]; decide) (by rw [c8]; decide) (by rw [c8]; rfl) (by decide) ?_
                    refine jw_iconst (pc := 111) (v := 1) dX4_readRest_111 rfl ?_
                    exact jw_zret (pc := 112) dX4_readRest_112 rfl (Or.inr rfl) ⟨true, rfl, h⟩
                  · replace h := h.2 c8
                    refine (Decidable.em ((M.1 18 j1) = 15)).elim (fun c9 => ?_) (fun c9 => ?_)
                    · replace h := h.1 c9
                      refine jw_tableIn (pc := 19) (tgt := 95) dX4_readRest_19 (by rw [c9]; decide) (by rw [c9]; decide) (by rw [c9]; rfl) (by decide) ?_
                      refine jw_aload_n (pc := 95) (j := 1) dX4_readRest_95 rfl rfl ?_
                      refine jw_iload_n (pc := 96) (j := 0) dX4_readRest_96 rfl rfl ?_
                      refine jw_iconst (pc := 97) (v := 1) dX4_readRest_97 rfl ?_
                      refine jw_bipush (pc := 98) (v := 99) dX4_readRest_98 rfl ?_
                      refine jw_callV (pc := 100) (m2 := mX4_readNumber) (As := [.int ((M.1 17 2) - (1 : Int32)), .int (1 : Int32), .int (99 : Int32)]) (st := []) dX4_readRest_100 sC_16 (by decide) rfl rfl gm_X4_readNumber ml_X4_89 rfl (Nat.le_of_ble_eq_true rfl) (JC.mono h ?_)
                      clear h
                      rintro M7 _ ⟨b7, rfl, h⟩
                      refine jw_st (st' := [.int (jb b7)]) rfl ?_
                      exact jw_zret (pc := 103) dX4_readRest_103 rfl (jb_01 _) ⟨_, rfl, h⟩
                    · replace h := h.2 c9
                      have e0 := jne_i (k := 6) (n := 6) c0 (by decide)
                      have e1 := jne_i (k := 7) (n := 7) c1 (by decide)
                      have e2 := jne_i (k := 8) (n := 8) c2 (by decide)
                      have e3 := jne_i (k := 9) (n := 9) c3 (by decide)
                      have e4 := jne_i (k := 10) (n := 10) c4 (by decide)
                      have e5 := jne_i (k := 11) (n := 11) c5 (by decide)
                      have e6 := jne_i (k := 12) (n := 12) c6 (by decide)
                      have e7 := jne_i (k := 13) (n := 13) c7 (by decide)
                      have e8 := jne_i (k := 14) (n := 14) c8 (by decide)
                      have e9 := jne_i (k := 15) (n := 15) c9 (by decide)
                      refine jw_tableOut (pc := 19) (tgt := 111) dX4_readRest_19 (by omega) (by decide) ?_
                      refine jw_iconst (pc := 111) (v := 1) dX4_readRest_111 rfl ?_
                      exact jw_zret (pc := 112) dX4_readRest_112 rfl (Or.inr rfl) ⟨true, rfl, h⟩
set_option maxRecDepth 20000 in
theorem b_X4_readCell {x : jX} {d : Nat} {M : jM} {P : jM → Bool → Prop} {a2 : Int32} 
    (h : JC x jtbC mX7_takeNumber d [.ref (x.2.2.2 25), .int (0 : Int32), .int ((M.1 30 0) - (1 : Int32))] M (jZ fun M1 b1 => (b1 = true → JC x jtbC mX7_takeNumber d [.ref (x.2.2.2 25), .int (0 : Int32), .int ((M1.1 30 1) - (1 : Int32))] M1 (jZ fun M2 b2 => (b2 = true → ∃ j1, j1 < 60 ∧ a2 = nI j1 ∧ (∀ M3, M3 = jrI M2 20 (upd (M2.1 20) j1 (((M2.1 25 5) * (M2.1 30 0)) + (M1.1 25 5))) → P M3 true)) ∧ (b2 = false → P M2 false))) ∧ (b1 = false → P M1 false))) :
    JC x jtbC mX4_readCell (d + 1) [.ref (x.2.2.2 16), .ref (x.2.2.2 30), .int a2] M (jZ P) := by
  refine JC.of rfl (Nat.le_of_ble_eq_true rfl) ?_
  refine jw_ls (ls' := [(0, .ref (x.2.2.2 16)), (1, .ref (x.2.2.2 30)), (2, .int a2)]) rfl ?_
  refine jw_aload_n (pc := 0) (j := 0) dX4_readCell_0 rfl rfl ?_
  refine jw_getR (pc := 1) (r := 25) dX4_readCell_1 sC_16 fl_X4_21 (by decide) rfl rfl ?_
  refine jw_iconst (pc := 4) (v := 0) dX4_readCell_4 rfl ?_
  refine jw_aload_n (pc := 5) (j := 1) dX4_readCell_5 rfl rfl ?_
  refine jw_getI (pc := 6) dX4_readCell_6 sC_30 fl_X4_96 (by decide) rfl ?_
  refine jw_iconst (pc := 9) (v := 1) dX4_readCell_9 rfl ?_
  refine jw_isub (pc := 10) dX4_readCell_10 ?_
  refine jw_callV (pc := 11) (m2 := mX7_takeNumber) (As := [.int (0 : Int32), .int ((M.1 30 0) - (1 : Int32))]) (st := []) dX4_readCell_11 sC_25 (by decide) rfl rfl gm_X7_takeNumber ml_X4_101 rfl (Nat.le_of_ble_eq_true rfl) (JC.mono h ?_)
  clear h
  rintro M1 _ ⟨b1, rfl, h⟩
  refine jw_st (st' := [.int (jb b1)]) rfl ?_
  refine jw_if_ne (pc := 14) (tgt := 19) dX4_readCell_14 (by decide) (fun c => ?_) (fun c => ?_)
  · replace h := h.1 (jb_ne c)
    refine jw_aload_n (pc := 19) (j := 0) dX4_readCell_19 rfl rfl ?_
    refine jw_getR (pc := 20) (r := 25) dX4_readCell_20 sC_16 fl_X4_21 (by decide) rfl rfl ?_
    refine jw_getI (pc := 23) dX4_readCell_23 sC_25 fl_X4_105 (by decide) rfl ?_
    refine jw_istore_n (pc := 26) (ls' := [(3, .int (M1.1 25 5)), (0, .ref (x.2.2.2 16)), (1, .ref (x.2.2.2 30)), (2, .int a2)]) dX4_readCell_26 rfl (by decide) rfl ?_
    refine jw_aload_n (pc := 27) (j := 1) dX4_readCell_27 rfl rfl ?_
    refine jw_getR (pc := 28) (r := 25) dX4_readCell_28 sC_16 fl_X4_21 (by decide) rfl rfl ?_
    refine jw_iconst (pc := 31) (v := 0) dX4_readCell_31 rfl ?_
    refine jw_aload_n (pc := 32) (j := 2) dX4_readCell_32 rfl rfl ?_
    refine jw_getI (pc := 33) dX4_readCell_33 sC_30 fl_X4_108 (by decide) rfl ?_
    refine jw_iconst (pc := 36) (v := 1) dX4_readCell_36 rfl ?_
    refine jw_isub (pc := 37) dX4_readCell_37 ?_
    refine jw_callV (pc := 38) (m2 := mX7_takeNumber) (As := [.int (0 : Int32), .int ((M1.1 30 1) - (1 : Int32))]) (st := []) dX4_readCell_38 sC_25 (by decide) rfl rfl gm_X7_takeNumber ml_X4_101 rfl (Nat.le_of_ble_eq_true rfl) (JC.mono h ?_)
    clear h
    rintro M2 _ ⟨b2, rfl, h⟩
    refine jw_st (st' := [.int (jb b2)]) rfl ?_
    refine jw_if_ne (pc := 41) (tgt := 46) dX4_readCell_41 (by decide) (fun c => ?_) (fun c => ?_)
    · replace h := h.1 (jb_ne c)
      refine jw_aload_n (pc := 46) (j := 1) dX4_readCell_46 rfl rfl ?_
      refine jw_getR (pc := 47) (r := 17) dX4_readCell_47 sC_16 fl_X4_12 (by decide) rfl rfl ?_
      refine jw_getR (pc := 50) (r := 20) dX4_readCell_50 sC_17 fl_X4_109 (by decide) rfl rfl ?_
      refine jw_iload_n (pc := 53) (j := 3) dX4_readCell_53 rfl rfl ?_
      refine jw_aload_n (pc := 54) (j := 1) dX4_readCell_54 rfl rfl ?_
      refine jw_getR (pc := 55) (r := 25) dX4_readCell_55 sC_16 fl_X4_21 (by decide) rfl rfl ?_
      refine jw_getI (pc := 58) dX4_readCell_58 sC_25 fl_X4_105 (by decide) rfl ?_
      refine jw_aload_n (pc := 61) (j := 2) dX4_readCell_61 rfl rfl ?_
      refine jw_getI (pc := 62) dX4_readCell_62 sC_30 fl_X4_96 (by decide) rfl ?_
      refine jw_imul (pc := 65) dX4_readCell_65 ?_
      refine jw_iload_n (pc := 66) (j := 0) dX4_readCell_66 rfl rfl ?_
      refine jw_iadd (pc := 67) dX4_readCell_67 ?_
      obtain ⟨j1, hj1, ej1, h⟩ := h
      refine jw_iast (pc := 68) (j := j1) dX4_readCell_68 sC_20 hj1 ej1 (by decide) ?_
      replace h := h _ rfl
      generalize jrI M2 20 (upd (M2.1 20) j1 (((M2.1 25 5) * (M2.1 30 0)) + (M1.1 25 5))) = M3 at h ⊢
      refine jw_iconst (pc := 69) (v := 1) dX4_readCell_69 rfl ?_
      exact jw_zret (pc := 70) dX4_readCell_70 rfl (Or.inr rfl) ⟨true, rfl, h⟩
    · replace h := h.2 ((jb_0 _).mp c)
      refine jw_iconst (pc := 44) (v := 0) dX4_readCell_44 rfl ?_
      exact jw_zret (pc := 45) dX4_readCell_45 rfl (Or.inl rfl) ⟨false, rfl, h⟩
  · replace h := h.2 ((jb_0 _).mp c)
    refine jw_iconst (pc := 17) (v := 0) dX4_readCell_17 rfl ?_
    exact jw_zret (pc := 18) dX4_readCell_18 rfl (Or.inl rfl) ⟨false, rfl, h⟩
set_option maxRecDepth 20000 in
theorem b_X4_readBy {x : jX} {d : Nat} {M : jM} {P : jM → Bool → Prop} {a1 : Int32} 
    (h : ∃ j1, j1 < 60 ∧ a1 = nI j1 ∧ (∀ M1, M1 = jrI M 23 (upd (M.1 23) j1 (1 : Int32)) → ((M1.1 25 3) = (8 : Int32) → JC x jtbC mX7_step d [.ref (x.2.2.2 25)] M1 (jV fun M2 => JC x jtbC mX4_readNumber d [.ref (x.2.2.2 16), .int a1, .int (1 : Int32), .int (99 : Int32)] M2 (jZ fun M3 b1 => P M3 b1))) ∧ (¬ (M1.1 25 3) = (8 : Int32) → P M1 true))) :
    JC x jtbC mX4_readBy (d + 1) [.ref (x.2.2.2 16), .int a1] M (jZ P) := by
  refine JC.of rfl (Nat.le_of_ble_eq_true rfl) ?_
  refine jw_ls (ls' := [(0, .ref (x.2.2.2 16)), (1, .int a1)]) rfl ?_
  refine jw_aload_n (pc := 0) (j := 0) dX4_readBy_0 rfl rfl ?_
  refine jw_getR (pc := 1) (r := 17) dX4_readBy_1 sC_16 fl_X4_12 (by decide) rfl rfl ?_
  refine jw_getR (pc := 4) (r := 23) dX4_readBy_4 sC_17 fl_X4_112 (by decide) rfl rfl ?_
  refine jw_iload_n (pc := 7) (j := 1) dX4_readBy_7 rfl rfl ?_
  refine jw_iconst (pc := 8) (v := 1) dX4_readBy_8 rfl ?_
  obtain ⟨j1, hj1, ej1, h⟩ := h
  refine jw_iast (pc := 9) (j := j1) dX4_readBy_9 sC_23 hj1 ej1 (by decide) ?_
  replace h := h _ rfl
  generalize jrI M 23 (upd (M.1 23) j1 (1 : Int32)) = M1 at h ⊢
  refine jw_aload_n (pc := 10) (j := 0) dX4_readBy_10 rfl rfl ?_
  refine jw_getR (pc := 11) (r := 25) dX4_readBy_11 sC_16 fl_X4_21 (by decide) rfl rfl ?_
  refine jw_getI (pc := 14) dX4_readBy_14 sC_25 fl_X4_43 (by decide) rfl ?_
  refine jw_bipush (pc := 17) (v := 8) dX4_readBy_17 rfl ?_
  refine jw_icmp_eq (pc := 19) (tgt := 24) dX4_readBy_19 (by decide) (fun c => ?_) (fun c => ?_)
  · replace h := h.1 c
    refine jw_aload_n (pc := 24) (j := 0) dX4_readBy_24 rfl rfl ?_
    refine jw_getR (pc := 25) (r := 25) dX4_readBy_25 sC_16 fl_X4_21 (by decide) rfl rfl ?_
    refine jw_callV (pc := 28) (m2 := mX7_step) (As := []) (st := []) dX4_readBy_28 sC_25 (by decide) rfl rfl gm_X7_step ml_X4_79 rfl (Nat.le_of_ble_eq_true rfl) (JC.mono h ?_)
    clear h
    rintro M2 _ ⟨rfl, h⟩
    refine jw_st (st' := []) rfl ?_
    refine jw_aload_n (pc := 31) (j := 0) dX4_readBy_31 rfl rfl ?_
    refine jw_iload_n (pc := 32) (j := 1) dX4_readBy_32 rfl rfl ?_
    refine jw_iconst (pc := 33) (v := 1) dX4_readBy_33 rfl ?_
    refine jw_bipush (pc := 34) (v := 99) dX4_readBy_34 rfl ?_
    refine jw_callV (pc := 36) (m2 := mX4_readNumber) (As := [.int a1, .int (1 : Int32), .int (99 : Int32)]) (st := []) dX4_readBy_36 sC_16 (by decide) rfl rfl gm_X4_readNumber ml_X4_89 rfl (Nat.le_of_ble_eq_true rfl) (JC.mono h ?_)
    clear h
    rintro M3 _ ⟨b1, rfl, h⟩
    refine jw_st (st' := [.int (jb b1)]) rfl ?_
    exact jw_zret (pc := 39) dX4_readBy_39 rfl (jb_01 _) ⟨_, rfl, h⟩
  · replace h := h.2 c
    refine jw_iconst (pc := 22) (v := 1) dX4_readBy_22 rfl ?_
    exact jw_zret (pc := 23) dX4_readBy_23 rfl (Or.inr rfl) ⟨true, rfl, h⟩
set_option maxRecDepth 20000 in
theorem b_X4_readNumber {x : jX} {d : Nat} {M : jM} {P : jM → Bool → Prop} {a1 : Int32} {a2 : Int32} {a3 : Int32} 
    (h : JC x jtbC mX7_takeNumber d [.ref (x.2.2.2 25), .int a2, .int a3] M (jZ fun M1 b1 => ∃ j1, j1 < 60 ∧ a1 = nI j1 ∧ (∀ M2, M2 = jrI M1 23 (upd (M1.1 23) j1 (M1.1 25 5)) → P M2 b1))) :
    JC x jtbC mX4_readNumber (d + 1) [.ref (x.2.2.2 16), .int a1, .int a2, .int a3] M (jZ P) := by
  refine JC.of rfl (Nat.le_of_ble_eq_true rfl) ?_
  refine jw_ls (ls' := [(0, .ref (x.2.2.2 16)), (1, .int a1), (2, .int a2), (3, .int a3)]) rfl ?_
  refine jw_aload_n (pc := 0) (j := 0) dX4_readNumber_0 rfl rfl ?_
  refine jw_getR (pc := 1) (r := 25) dX4_readNumber_1 sC_16 fl_X4_21 (by decide) rfl rfl ?_
  refine jw_iload_n (pc := 4) (j := 2) dX4_readNumber_4 rfl rfl ?_
  refine jw_iload_n (pc := 5) (j := 3) dX4_readNumber_5 rfl rfl ?_
  refine jw_callV (pc := 6) (m2 := mX7_takeNumber) (As := [.int a2, .int a3]) (st := []) dX4_readNumber_6 sC_25 (by decide) rfl rfl gm_X7_takeNumber ml_X4_101 rfl (Nat.le_of_ble_eq_true rfl) (JC.mono h ?_)
  clear h
  rintro M1 _ ⟨b1, rfl, h⟩
  refine jw_st (st' := [.int (jb b1)]) rfl ?_
  refine jw_istore (pc := 9) (ls' := [(4, .int (jb b1)), (0, .ref (x.2.2.2 16)), (1, .int a1), (2, .int a2), (3, .int a3)]) dX4_readNumber_9 (by decide) rfl ?_
  refine jw_aload_n (pc := 11) (j := 1) dX4_readNumber_11 rfl rfl ?_
  refine jw_getR (pc := 12) (r := 17) dX4_readNumber_12 sC_16 fl_X4_12 (by decide) rfl rfl ?_
  refine jw_getR (pc := 15) (r := 23) dX4_readNumber_15 sC_17 fl_X4_112 (by decide) rfl rfl ?_
  refine jw_iload_n (pc := 18) (j := 2) dX4_readNumber_18 rfl rfl ?_
  refine jw_aload_n (pc := 19) (j := 1) dX4_readNumber_19 rfl rfl ?_
  refine jw_getR (pc := 20) (r := 25) dX4_readNumber_20 sC_16 fl_X4_21 (by decide) rfl rfl ?_
  refine jw_getI (pc := 23) dX4_readNumber_23 sC_25 fl_X4_105 (by decide) rfl ?_
  obtain ⟨j1, hj1, ej1, h⟩ := h
  refine jw_iast (pc := 26) (j := j1) dX4_readNumber_26 sC_23 hj1 ej1 (by decide) ?_
  replace h := h _ rfl
  generalize jrI M1 23 (upd (M1.1 23) j1 (M1.1 25 5)) = M2 at h ⊢
  refine jw_iload (pc := 27) (j := 0) dX4_readNumber_27 rfl ?_
  exact jw_zret (pc := 29) dX4_readNumber_29 rfl (jb_01 _) ⟨_, rfl, h⟩
set_option maxRecDepth 20000 in
theorem b_X4_readTest {x : jX} {d : Nat} {M : jM} {P : jM → Bool → Prop} {a2 : Int32} 
    (h : ((M.1 25 3) = (11 : Int32) → JW x jtbC mX4_readTest (d + 1) (jZ P) 40 [(0, .ref (x.2.2.2 16)), (1, .ref (x.2.2.2 30)), (2, .int a2), (3, .int (M.1 25 3))] [] M) ∧ (¬ (M.1 25 3) = (11 : Int32) → ((M.1 25 3) = (5 : Int32) → JW x jtbC mX4_readTest (d + 1) (jZ P) 40 [(0, .ref (x.2.2.2 16)), (1, .ref (x.2.2.2 30)), (2, .int a2), (3, .int (M.1 25 3))] [] M) ∧ (¬ (M.1 25 3) = (5 : Int32) → ((M.1 25 3) = (13 : Int32) → JW x jtbC mX4_readTest (d + 1) (jZ P) 40 [(0, .ref (x.2.2.2 16)), (1, .ref (x.2.2.2 30)), (2, .int a2), (3, .int (M.1 25 3))] [] M) ∧ (¬ (M.1 25 3) = (13 : Int32) → ((M.1 25 3) = (14 : Int32) → JW x jtbC mX4_readTest (d + 1) (jZ P) 40 [(0, .ref (x.2.2.2 16)), (1, .ref (x.2.2.2 30)), (2, .int a2), (3, .int (M.1 25 3))] [] M) ∧ (¬ (M.1 25 3) = (14 : Int32) → JC x jtbC mX7_refuse d [.ref (x.2.2.2 25), .int (2 : Int32)] M (jZ fun M1 b1 => P M1 b1)))))) :
    JC x jtbC mX4_readTest (d + 1) [.ref (x.2.2.2 16), .ref (x.2.2.2 30), .int a2] M (jZ P) := by
  refine JC.of rfl (Nat.le_of_ble_eq_true rfl) ?_
  refine jw_ls (ls' := [(0, .ref (x.2.2.2 16)), (1, .ref (x.2.2.2 30)), (2, .int a2)]) rfl ?_
  refine jw_aload_n (pc := 0) (j := 0) dX4_readTest_0 rfl rfl ?_
  refine jw_getR (pc := 1) (r := 25) dX4_readTest_1 sC_16 fl_X4_21 (by decide) rfl rfl ?_
  refine jw_getI (pc := 4) dX4_readTest_4 sC_25 fl_X4_43 (by decide) rfl ?_
  refine jw_istore_n (pc := 7) (ls' := [(3, .int (M.1 25 3)), (0, .ref (x.2.2.2 16)), (1, .ref (x.2.2.2 30)), (2, .int a2)]) dX4_readTest_7 rfl (by decide) rfl ?_
  refine jw_iload_n (pc := 8) (j := 0) dX4_readTest_8 rfl rfl ?_
  refine jw_bipush (pc := 9) (v := 11) dX4_readTest_9 rfl ?_
  refine jw_icmp_eq (pc := 11) (tgt := 40) dX4_readTest_11 (by decide) (fun c => ?_) (fun c => ?_)
  · replace h := h.1 c
    exact jw_sub [1, 2, 3, 0] rfl h
  · replace h := h.2 c
    refine jw_iload_n (pc := 14) (j := 0) dX4_readTest_14 rfl rfl ?_
    refine jw_iconst (pc := 15) (v := 5) dX4_readTest_15 rfl ?_
    refine jw_icmp_eq (pc := 16) (tgt := 40) dX4_readTest_16 (by decide) (fun c => ?_) (fun c => ?_)
    · replace h := h.1 c
      exact jw_sub [1, 2, 3, 0] rfl h
    · replace h := h.2 c
      refine jw_iload_n (pc := 19) (j := 0) dX4_readTest_19 rfl rfl ?_
      refine jw_bipush (pc := 20) (v := 13) dX4_readTest_20 rfl ?_
      refine jw_icmp_eq (pc := 22) (tgt := 40) dX4_readTest_22 (by decide) (fun c => ?_) (fun c => ?_)
      · replace h := h.1 c
        exact jw_sub [1, 2, 3, 0] rfl h
      · replace h := h.2 c
        refine jw_iload_n (pc := 25) (j := 0) dX4_readTest_25 rfl rfl ?_
        refine jw_bipush (pc := 26) (v := 14) dX4_readTest_26 rfl ?_
        refine jw_icmp_eq (pc := 28) (tgt := 40) dX4_readTest_28 (by decide) (fun c => ?_) (fun c => ?_)
        · replace h := h.1 c
          exact jw_sub [1, 2, 3, 0] rfl h
        · replace h := h.2 c
          refine jw_aload_n (pc := 31) (j := 1) dX4_readTest_31 rfl rfl ?_
          refine jw_getR (pc := 32) (r := 25) dX4_readTest_32 sC_16 fl_X4_21 (by decide) rfl rfl ?_
          refine jw_iconst (pc := 35) (v := 2) dX4_readTest_35 rfl ?_
          refine jw_callV (pc := 36) (m2 := mX7_refuse) (As := [.int (2 : Int32)]) (st := []) dX4_readTest_36 sC_25 (by decide) rfl rfl gm_X7_refuse ml_X4_60 rfl (Nat.le_of_ble_eq_true rfl) (JC.mono h ?_)
          clear h
          rintro M1 _ ⟨b1, rfl, h⟩
          refine jw_st (st' := [.int (jb b1)]) rfl ?_
          exact jw_zret (pc := 39) dX4_readTest_39 rfl (jb_01 _) ⟨_, rfl, h⟩
set_option maxRecDepth 20000 in
theorem b_X4_readTest_40 {x : jX} {d : Nat} {M : jM} {P : jM → Bool → Prop} {l2 : Int32} {l3 : Int32} 
    (h : ∃ j1, j1 < 60 ∧ l2 = nI j1 ∧ (∀ M1, M1 = jrI M 19 (upd (M.1 19) j1 l3) → JC x jtbC mX7_step d [.ref (x.2.2.2 25)] M1 (jV fun M2 => (l3 = 5 → JC x jtbC mX4_readName d [.ref (x.2.2.2 16), .ref (x.2.2.2 30), .int l2] M2 (jZ fun M3 b1 => (b1 = false → P M3 false) ∧ (b1 = true → JC x jtbC mX4_readStrip d [.ref (x.2.2.2 16), .int l2] M3 (jZ fun M4 b2 => (b2 = false → P M4 false) ∧ (b2 = true → JC x jtbC mX4_readCompares d [.ref (x.2.2.2 16), .int l2] M4 (jZ fun M5 b3 => (b3 = false → P M5 false) ∧ (b3 = true → JC x jtbC mX4_readNumber d [.ref (x.2.2.2 16), .int l2, .int (0 : Int32), .int (99 : Int32)] M5 (jZ fun M6 b4 => (b4 = false → P M6 false) ∧ (b4 = true → P M6 true))))))))) ∧ (¬ l3 = 5 → (l3 = 11 → JC x jtbC mX4_readCell d [.ref (x.2.2.2 16), .ref (x.2.2.2 30), .int l2] M2 (jZ fun M7 b5 => (b5 = false → P M7 false) ∧ (b5 = true → JC x jtbC mX4_readCompares d [.ref (x.2.2.2 16), .int l2] M7 (jZ fun M8 b6 => (b6 = false → P M8 false) ∧ (b6 = true → JC x jtbC mX4_readNumber d [.ref (x.2.2.2 16), .int l2, .int (0 : Int32), .int (99 : Int32)] M8 (jZ fun M9 b7 => (b7 = false → P M9 false) ∧ (b7 = true → P M9 true))))))) ∧ (¬ l3 = 11 → (l3 = 13 → JC x jtbC mX4_readName d [.ref (x.2.2.2 16), .ref (x.2.2.2 30), .int l2] M2 (jZ fun M10 b8 => P M10 b8)) ∧ (¬ l3 = 13 → JC x jtbC mX4_readCompares d [.ref (x.2.2.2 16), .int l2] M2 (jZ fun M11 b9 => (b9 = false → P M11 false) ∧ (b9 = true → JC x jtbC mX4_readNumber d [.ref (x.2.2.2 16), .int l2, .int (0 : Int32), .int (9999 : Int32)] M11 (jZ fun M12 b10 => (b10 = false → P M12 false) ∧ (b10 = true → P M12 true)))))))))) :
    JW x jtbC mX4_readTest (d + 1) (jZ P) 40 [(0, .ref (x.2.2.2 16)), (1, .ref (x.2.2.2 30)), (2, .int l2), (3, .int l3)] [] M := by
  refine jw_aload_n (pc := 40) (j := 0) dX4_readTest_40 rfl rfl ?_
  refine jw_getR (pc := 41) (r := 17) dX4_readTest_41 sC_16 fl_X4_12 (by decide) rfl rfl ?_
  refine jw_getR (pc := 44) (r := 19) dX4_readTest_44 sC_17 fl_X4_115 (by decide) rfl rfl ?_
  refine jw_iload_n (pc := 47) (j := 2) dX4_readTest_47 rfl rfl ?_
  refine jw_iload_n (pc := 48) (j := 3) dX4_readTest_48 rfl rfl ?_
  obtain ⟨j1, hj1, ej1, h⟩ := h
  refine jw_iast (pc := 49) (j := j1) dX4_readTest_49 sC_19 hj1 ej1 (by decide) ?_
  replace h := h _ rfl
  generalize jrI M 19 (upd (M.1 19) j1 l3) = M1 at h ⊢
  refine jw_aload_n (pc := 50) (j := 0) dX4_readTest_50 rfl rfl ?_
  refine jw_getR (pc := 51) (r := 25) dX4_readTest_51 sC_16 fl_X4_21 (by decide) rfl rfl ?_
  refine jw_callV (pc := 54) (m2 := mX7_step) (As := []) (st := []) dX4_readTest_54 sC_25 (by decide) rfl rfl gm_X7_step ml_X4_79 rfl (Nat.le_of_ble_eq_true rfl) (JC.mono h ?_)
  clear h
  rintro M2 _ ⟨rfl, h⟩
  refine jw_st (st' := []) rfl ?_
  refine jw_iload_n (pc := 57) (j := 3) dX4_readTest_57 rfl rfl ?_
  refine (Decidable.em (l3 = 5)).elim (fun c0 => ?_) (fun c0 => ?_)
  · replace h := h.1 c0
    refine jw_lookup (pc := 58) (off := 68) (tgt := 126) dX4_readTest_58 (by decide) (by rw [c0]; decide) (by decide) ?_
    refine jw_aload_n (pc := 126) (j := 0) dX4_readTest_126 rfl rfl ?_
    refine jw_aload_n (pc := 127) (j := 1) dX4_readTest_127 rfl rfl ?_
    refine jw_iload_n (pc := 128) (j := 2) dX4_readTest_128 rfl rfl ?_
    refine jw_callV (pc := 129) (m2 := mX4_readName) (As := [.ref (x.2.2.2 30), .int l2]) (st := []) dX4_readTest_129 sC_16 (by decide) rfl rfl gm_X4_readName ml_X4_121 rfl (Nat.le_of_ble_eq_true rfl) (JC.mono h ?_)
    clear h
    rintro M3 _ ⟨b1, rfl, h⟩
    refine jw_st (st' := [.int (jb b1)]) rfl ?_
    refine jw_if_eq (pc := 132) (tgt := 166) dX4_readTest_132 (by decide) (fun c => ?_) (fun c => ?_)
    · replace h := h.1 ((jb_0 _).mp c)
      refine jw_iconst (pc := 166) (v := 0) dX4_readTest_166 rfl ?_
      exact jw_zret (pc := 167) dX4_readTest_167 rfl (Or.inl rfl) ⟨false, rfl, h⟩
    · replace h := h.2 (jb_ne c)
      refine jw_aload_n (pc := 135) (j := 0) dX4_readTest_135 rfl rfl ?_
      refine jw_iload_n (pc := 136) (j := 2) dX4_readTest_136 rfl rfl ?_
      refine jw_callV (pc := 137) (m2 := mX4_readStrip) (As := [.int l2]) (st := []) dX4_readTest_137 sC_16 (by decide) rfl rfl gm_X4_readStrip ml_X4_124 rfl (Nat.le_of_ble_eq_true rfl) (JC.mono h ?_)
      clear h
      rintro M4 _ ⟨b2, rfl, h⟩
      refine jw_st (st' := [.int (jb b2)]) rfl ?_
      refine jw_if_eq (pc := 140) (tgt := 166) dX4_readTest_140 (by decide) (fun c => ?_) (fun c => ?_)
      · replace h := h.1 ((jb_0 _).mp c)
        refine jw_iconst (pc := 166) (v := 0) dX4_readTest_166 rfl ?_
        exact jw_zret (pc := 167) dX4_readTest_167 rfl (Or.inl rfl) ⟨false, rfl, h⟩
      · replace h := h.2 (jb_ne c)
        refine jw_aload_n (pc := 143) (j := 0) dX4_readTest_143 rfl rfl ?_
        refine jw_iload_n (pc := 144) (j := 2) dX4_readTest_144 rfl rfl ?_
        refine jw_callV (pc := 145) (m2 := mX4_readCompares) (As := [.int l2]) (st := []) dX4_readTest_145 sC_16 (by decide) rfl rfl gm_X4_readCompares ml_X4_118 rfl (Nat.le_of_ble_eq_true rfl) (JC.mono h ?_)
        clear h
        rintro M5 _ ⟨b3, rfl, h⟩
        refine jw_st (st' := [.int (jb b3)]) rfl ?_
        refine jw_if_eq (pc := 148) (tgt := 166) dX4_readTest_148 (by decide) (fun c => ?_) (fun c => ?_)
        · replace h := h.1 ((jb_0 _).mp c)
          refine jw_iconst (pc := 166) (v := 0) dX4_readTest_166 rfl ?_
          exact jw_zret (pc := 167) dX4_readTest_167 rfl (Or.inl rfl) ⟨false, rfl, h⟩
        · replace h := h.2 (jb_ne c)
          refine jw_aload_n (pc := 151) (j := 0) dX4_readTest_151 rfl rfl ?_
          refine jw_iload_n (pc := 152) (j := 2) dX4_readTest_152 rfl rfl ?_
          refine jw_iconst (pc := 153) (v := 0) dX4_readTest_153 rfl ?_
          refine jw_bipush (pc := 154) (v := 99) dX4_readTest_154 rfl ?_
          refine jw_callV (pc := 156) (m2 := mX4_readNumber) (As := [.int l2, .int (0 : Int32), .int (99 : Int32)]) (st := []) dX4_readTest_156 sC_16 (by decide) rfl rfl gm_X4_readNumber ml_X4_89 rfl (Nat.le_of_ble_eq_true rfl) (JC.mono h ?_)
          clear h
          rintro M6 _ ⟨b4, rfl, h⟩
          refine jw_st (st' := [.int (jb b4)]) rfl ?_
          refine jw_if_eq (pc := 159) (tgt := 166) dX4_readTest_159 (by decide) (fun c => ?_) (fun c => ?_)
          · replace h := h.1 ((jb_0 _).mp c)
            refine jw_iconst (pc := 166) (v := 0) dX4_readTest_166 rfl ?_
            exact jw_zret (pc := 167) dX4_readTest_167 rfl (Or.inl rfl) ⟨false, rfl, h⟩
          · replace h := h.2 (jb_ne c)
            refine jw_iconst (pc := 162) (v := 1) dX4_readTest_162 rfl ?_
            refine jw_goto (pc := 163) (tgt := 167) dX4_readTest_163 (by decide) ?_
            exact jw_zret (pc := 167) dX4_readTest_167 rfl (Or.inr rfl) ⟨true, rfl, h⟩
  · replace h := h.2 c0
    refine (Decidable.em (l3 = 11)).elim (fun c1 => ?_) (fun c1 => ?_)
    · replace h := h.1 c1
      refine jw_lookup (pc := 58) (off := 34) (tgt := 92) dX4_readTest_58 (by decide) (by rw [c1]; decide) (by decide) ?_
      refine jw_aload_n (pc := 92) (j := 0) dX4_readTest_92 rfl rfl ?_
      refine jw_aload_n (pc := 93) (j := 1) dX4_readTest_93 rfl rfl ?_
      refine jw_iload_n (pc := 94) (j := 2) dX4_readTest_94 rfl rfl ?_
      refine jw_callV (pc := 95) (m2 := mX4_readCell) (As := [.ref (x.2.2.2 30), .int l2]) (st := []) dX4_readTest_95 sC_16 (by decide) rfl rfl gm_X4_readCell ml_X4_82 rfl (Nat.le_of_ble_eq_true rfl) (JC.mono h ?_)
      clear h
      rintro M7 _ ⟨b5, rfl, h⟩
      refine jw_st (st' := [.int (jb b5)]) rfl ?_
      refine jw_if_eq (pc := 98) (tgt := 124) dX4_readTest_98 (by decide) (fun c => ?_) (fun c => ?_)
      · replace h := h.1 ((jb_0 _).mp c)
        refine jw_iconst (pc := 124) (v := 0) dX4_readTest_124 rfl ?_
        exact jw_zret (pc := 125) dX4_readTest_125 rfl (Or.inl rfl) ⟨false, rfl, h⟩
      · replace h := h.2 (jb_ne c)
        refine jw_aload_n (pc := 101) (j := 0) dX4_readTest_101 rfl rfl ?_
        refine jw_iload_n (pc := 102) (j := 2) dX4_readTest_102 rfl rfl ?_
        refine jw_callV (pc := 103) (m2 := mX4_readCompares) (As := [.int l2]) (st := []) dX4_readTest_103 sC_16 (by decide) rfl rfl gm_X4_readCompares ml_X4_118 rfl (Nat.le_of_ble_eq_true rfl) (JC.mono h ?_)
        clear h
        rintro M8 _ ⟨b6, rfl, h⟩
        refine jw_st (st' := [.int (jb b6)]) rfl ?_
        refine jw_if_eq (pc := 106) (tgt := 124) dX4_readTest_106 (by decide) (fun c => ?_) (fun c => ?_)
        · replace h := h.1 ((jb_0 _).mp c)
          refine jw_iconst (pc := 124) (v := 0) dX4_readTest_124 rfl ?_
          exact jw_zret (pc := 125) dX4_readTest_125 rfl (Or.inl rfl) ⟨false, rfl, h⟩
        · replace h := h.2 (jb_ne c)
          refine jw_aload_n (pc := 109) (j := 0) dX4_readTest_109 rfl rfl ?_
          refine jw_iload_n (pc := 110) (j := 2) dX4_readTest_110 rfl rfl ?_
          refine jw_iconst (pc := 111) (v := 0) dX4_readTest_111 rfl ?_
          refine jw_bipush (pc := 112) (v := 99) dX4_readTest_112 rfl ?_
          refine jw_callV (pc := 114) (m2 := mX4_readNumber) (As := [.int l2, .int (0 : Int32), .int (99 : Int32)]) (st := []) dX4_readTest_114 sC_16 (by decide) rfl rfl gm_X4_readNumber ml_X4_89 rfl (Nat.le_of_ble_eq_true rfl) (JC.mono h ?_)
          clear h
          rintro M9 _ ⟨b7, rfl, h⟩
          refine jw_st (st' := [.int (jb b7)]) rfl ?_
          refine jw_if_eq (pc := 117) (tgt := 124) dX4_readTest_117 (by decide) (fun c => ?_) (fun c => ?_)
          · replace h := h.1 ((jb_0 _).mp c)
            refine jw_iconst (pc := 124) (v := 0) dX4_readTest_124 rfl ?_
            exact jw_zret (pc := 125) dX4_readTest_125 rfl (Or.inl rfl) ⟨false, rfl, h⟩
          · replace h := h.2 (jb_ne c)
            refine jw_iconst (pc := 120) (v := 1) dX4_readTest_120 rfl ?_
            refine jw_goto (pc := 121) (tgt := 125) dX4_readTest_121 (by decide) ?_
            exact jw_zret (pc := 125) dX4_readTest_125 rfl (Or.inr rfl) ⟨true, rfl, h⟩
    · replace h := h.2 c1
      refine (Decidable.em (l3 = 13)).elim (fun c2 => ?_) (fun c2 => ?_)
      · replace h := h.1 c2
        refine jw_lookup (pc := 58) (off := 110) (tgt := 168) dX4_readTest_58 (by decide) (by rw [c2]; decide) (by decide) ?_
        refine jw_aload_n (pc := 168) (j := 0) dX4_readTest_168 rfl rfl ?_
        refine jw_aload_n (pc := 169) (j := 1) dX4_readTest_169 rfl rfl ?_
        refine jw_iload_n (pc := 170) (j := 2) dX4_readTest_170 rfl rfl ?_
        refine jw_callV (pc := 171) (m2 := mX4_readName) (As := [.ref (x.2.2.2 30), .int l2]) (st := []) dX4_readTest_171 sC_16 (by decide) rfl rfl gm_X4_readName ml_X4_121 rfl (Nat.le_of_ble_eq_true rfl) (JC.mono h ?_)
        clear h
        rintro M10 _ ⟨b8, rfl, h⟩
        refine jw_st (st' := [.int (jb b8)]) rfl ?_
        exact jw_zret (pc := 174) dX4_readTest_174 rfl (jb_01 _) ⟨_, rfl, h⟩
      · replace h := h.2 c2
        have e0 := jne_i (k := 5) (n := 5) c0 (by decide)
        have e1 := jne_i (k := 11) (n := 11) c1 (by decide)
        have e2 := jne_i (k := 13) (n := 13) c2 (by decide)
        refine jw_lookup (pc := 58) (off := 117) (tgt := 175) dX4_readTest_58 (by decide) (by simp [Op.lookupswitch.offset, e0, e1, e2, Ne.symm e0, Ne.symm e1, Ne.symm e2]) (by decide) ?_
        refine jw_aload_n (pc := 175) (j := 0) dX4_readTest_175 rfl rfl ?_
        refine jw_iload_n (pc := 176) (j := 2) dX4_readTest_176 rfl rfl ?_
        refine jw_callV (pc := 177) (m2 := mX4_readCompares) (As := [.int l2]) (st := []) dX4_readTest_177 sC_16 (by decide) rfl rfl gm_X4_readCompares ml_X4_118 rfl (Nat.le_of_ble_eq_true rfl) (JC.mono h ?_)
        clear h
        rintro M11 _ ⟨b9, rfl, h⟩
        refine jw_st (st' := [.int (jb b9)]) rfl ?_
        refine jw_if_eq (pc := 180) (tgt := 199) dX4_readTest_180 (by decide) (fun c => ?_) (fun c => ?_)
        · replace h := h.1 ((jb_0 _).mp c)
          refine jw_iconst (pc := 199) (v := 0) dX4_readTest_199 rfl ?_
          exact jw_zret (pc := 200) dX4_readTest_200 rfl (Or.inl rfl) ⟨false, rfl, h⟩
        · replace h := h.2 (jb_ne c)
          refine jw_aload_n (pc := 183) (j := 0) dX4_readTest_183 rfl rfl ?_
          refine jw_iload_n (pc := 184) (j := 2) dX4_readTest_184 rfl rfl ?_
          refine jw_iconst (pc := 185) (v := 0) dX4_readTest_185 rfl ?_
          refine jw_sipush (pc := 186) (v := 9999) dX4_readTest_186 rfl ?_
          refine jw_callV (pc := 189) (m2 := mX4_readNumber) (As := [.int l2, .int (0 : Int32), .int (9999 : Int32)]) (st := []) dX4_readTest_189 sC_16 (by decide) rfl rfl gm_X4_readNumber ml_X4_89 rfl (Nat.le_of_ble_eq_true rfl) (JC.mono h ?_)
          clear h
          rintro M12 _ ⟨b10, rfl, h⟩
          refine jw_st (st' := [.int (jb b10)]) rfl ?_
          refine jw_if_eq (pc := 192) (tgt := 199) dX4_readTest_192 (by decide) (fun c => ?_) (fun c => ?_)
          · replace h := h.1 ((jb_0 _).mp c)
            refine jw_iconst (pc := 199) (v := 0) dX4_readTest_199 rfl ?_
            exact jw_zret (pc := 200) dX4_readTest_200 rfl (Or.inl rfl) ⟨false, rfl, h⟩
          · replace h := h.2 (jb_ne c)
            refine jw_iconst (pc := 195) (v := 1) dX4_readTest_195 rfl ?_
            refine jw_goto (pc := 196) (tgt := 200) dX4_readTest_196 (by decide) ?_
            exact jw_zret (pc := 200) dX4_readTest_200 rfl (Or.inr rfl) ⟨true, rfl, h⟩
set_option maxRecDepth 20000 in
theorem b_X4_readName {x : jX} {d : Nat} {M : jM} {P : jM → Bool → Prop} {a2 : Int32} 
    (h : JC x jtbC mX7_isName d [.ref (x.2.2.2 25)] M (jZ fun M1 b1 => (b1 = true → JC x jtbC mX5_villageNamed d [.ref (x.2.2.2 30), .long (M1.2 25 4)] M1 (jI fun M2 r1 => ∃ j1, j1 < 60 ∧ a2 = nI j1 ∧ (∀ M3, M3 = jrI M2 20 (upd (M2.1 20) j1 r1) → (¬ (M3.1 20 j1) = (-1 : Int32) → JC x jtbC mX7_step d [.ref (x.2.2.2 25)] M3 (jV fun M4 => P M4 true)) ∧ ((M3.1 20 j1) = (-1 : Int32) → JC x jtbC mX7_refuse d [.ref (x.2.2.2 25), .int (3 : Int32)] M3 (jZ fun M5 b2 => P M5 b2))))) ∧ (b1 = false → JC x jtbC mX7_refuse d [.ref (x.2.2.2 25), .int (2 : Int32)] M1 (jZ fun M6 b3 => P M6 b3)))) :
    JC x jtbC mX4_readName (d + 1) [.ref (x.2.2.2 16), .ref (x.2.2.2 30), .int a2] M (jZ P) := by
  refine JC.of rfl (Nat.le_of_ble_eq_true rfl) ?_
  refine jw_ls (ls' := [(0, .ref (x.2.2.2 16)), (1, .ref (x.2.2.2 30)), (2, .int a2)]) rfl ?_
  refine jw_aload_n (pc := 0) (j := 0) dX4_readName_0 rfl rfl ?_
  refine jw_getR (pc := 1) (r := 25) dX4_readName_1 sC_16 fl_X4_21 (by decide) rfl rfl ?_
  refine jw_callV (pc := 4) (m2 := mX7_isName) (As := []) (st := []) dX4_readName_4 sC_25 (by decide) rfl rfl gm_X7_isName ml_X4_127 rfl (Nat.le_of_ble_eq_true rfl) (JC.mono h ?_)
  clear h
  rintro M1 _ ⟨b1, rfl, h⟩
  refine jw_st (st' := [.int (jb b1)]) rfl ?_
  refine jw_if_ne (pc := 7) (tgt := 19) dX4_readName_7 (by decide) (fun c => ?_) (fun c => ?_)
  · replace h := h.1 (jb_ne c)
    refine jw_aload_n (pc := 19) (j := 0) dX4_readName_19 rfl rfl ?_
    refine jw_getR (pc := 20) (r := 17) dX4_readName_20 sC_16 fl_X4_12 (by decide) rfl rfl ?_
    refine jw_getR (pc := 23) (r := 20) dX4_readName_23 sC_17 fl_X4_109 (by decide) rfl rfl ?_
    refine jw_iload_n (pc := 26) (j := 2) dX4_readName_26 rfl rfl ?_
    refine jw_aload_n (pc := 27) (j := 1) dX4_readName_27 rfl rfl ?_
    refine jw_aload_n (pc := 28) (j := 0) dX4_readName_28 rfl rfl ?_
    refine jw_getR (pc := 29) (r := 25) dX4_readName_29 sC_16 fl_X4_21 (by decide) rfl rfl ?_
    refine jw_getL (pc := 32) dX4_readName_32 sC_25 fl_X4_130 (by decide) rfl ?_
    refine jw_callV (pc := 35) (m2 := mX5_villageNamed) (As := [.long (M1.2 25 4)]) (st := [.int a2, .ref (x.2.2.2 20)]) dX4_readName_35 sC_30 (by decide) rfl rfl gm_X5_villageNamed ml_X4_134 rfl (Nat.le_of_ble_eq_true rfl) (JC.mono h ?_)
    clear h
    rintro M2 _ ⟨r1, rfl, h⟩
    refine jw_st (st' := [.int r1, .int a2, .ref (x.2.2.2 20)]) rfl ?_
    obtain ⟨j1, hj1, ej1, h⟩ := h
    refine jw_iast (pc := 38) (j := j1) dX4_readName_38 sC_20 hj1 ej1 (by decide) ?_
    replace h := h _ rfl
    generalize jrI M2 20 (upd (M2.1 20) j1 r1) = M3 at h ⊢
    refine jw_aload_n (pc := 39) (j := 0) dX4_readName_39 rfl rfl ?_
    refine jw_getR (pc := 40) (r := 17) dX4_readName_40 sC_16 fl_X4_12 (by decide) rfl rfl ?_
    refine jw_getR (pc := 43) (r := 20) dX4_readName_43 sC_17 fl_X4_109 (by decide) rfl rfl ?_
    refine jw_iload_n (pc := 46) (j := 2) dX4_readName_46 rfl rfl ?_
    refine jw_iald (pc := 47) (j := j1) dX4_readName_47 sC_20 hj1 ej1 (by decide) ?_
    refine jw_iconst (pc := 48) (v := (-1)) dX4_readName_48 rfl ?_
    refine jw_icmp_ne (pc := 49) (tgt := 61) dX4_readName_49 (by decide) (fun c => ?_) (fun c => ?_)
    · replace h := h.1 c
      refine jw_aload_n (pc := 61) (j := 0) dX4_readName_61 rfl rfl ?_
      refine jw_getR (pc := 62) (r := 25) dX4_readName_62 sC_16 fl_X4_21 (by decide) rfl rfl ?_
      refine jw_callV (pc := 65) (m2 := mX7_step) (As := []) (st := []) dX4_readName_65 sC_25 (by decide) rfl rfl gm_X7_step ml_X4_79 rfl (Nat.le_of_ble_eq_true rfl) (JC.mono h ?_)
      clear h
      rintro M4 _ ⟨rfl, h⟩
      refine jw_st (st' := []) rfl ?_
      refine jw_iconst (pc := 68) (v := 1) dX4_readName_68 rfl ?_
      exact jw_zret (pc := 69) dX4_readName_69 rfl (Or.inr rfl) ⟨true, rfl, h⟩
    · replace h := h.2 c
      refine jw_aload_n (pc := 52) (j := 0) dX4_readName_52 rfl rfl ?_
      refine jw_getR (pc := 53) (r := 25) dX4_readName_53 sC_16 fl_X4_21 (by decide) rfl rfl ?_
      refine jw_iconst (pc := 56) (v := 3) dX4_readName_56 rfl ?_
      refine jw_callV (pc := 57) (m2 := mX7_refuse) (As := [.int (3 : Int32)]) (st := []) dX4_readName_57 sC_25 (by decide) rfl rfl gm_X7_refuse ml_X4_60 rfl (Nat.le_of_ble_eq_true rfl) (JC.mono h ?_)
      clear h
      rintro M5 _ ⟨b2, rfl, h⟩
      refine jw_st (st' := [.int (jb b2)]) rfl ?_
      exact jw_zret (pc := 60) dX4_readName_60 rfl (jb_01 _) ⟨_, rfl, h⟩
  · replace h := h.2 ((jb_0 _).mp c)
    refine jw_aload_n (pc := 10) (j := 0) dX4_readName_10 rfl rfl ?_
    refine jw_getR (pc := 11) (r := 25) dX4_readName_11 sC_16 fl_X4_21 (by decide) rfl rfl ?_
    refine jw_iconst (pc := 14) (v := 2) dX4_readName_14 rfl ?_
    refine jw_callV (pc := 15) (m2 := mX7_refuse) (As := [.int (2 : Int32)]) (st := []) dX4_readName_15 sC_25 (by decide) rfl rfl gm_X7_refuse ml_X4_60 rfl (Nat.le_of_ble_eq_true rfl) (JC.mono h ?_)
    clear h
    rintro M6 _ ⟨b3, rfl, h⟩
    refine jw_st (st' := [.int (jb b3)]) rfl ?_
    exact jw_zret (pc := 18) dX4_readName_18 rfl (jb_01 _) ⟨_, rfl, h⟩
set_option maxRecDepth 20000 in
theorem b_X4_readStrip {x : jX} {d : Nat} {M : jM} {P : jM → Bool → Prop} {a1 : Int32} 
    (h : JC x jtbC mX7_takeWord d [.ref (x.2.2.2 25), .int (12 : Int32)] M (jZ fun M1 b1 => (b1 = false → JW x jtbC mX4_readStrip (d + 1) (jZ P) 30 [(0, .ref (x.2.2.2 16)), (1, .int a1)] [.int (0 : Int32)] M1) ∧ (b1 = true → JC x jtbC mX7_takeNumber d [.ref (x.2.2.2 25), .int (0 : Int32), .int (8 : Int32)] M1 (jZ fun M2 b2 => (b2 = false → JW x jtbC mX4_readStrip (d + 1) (jZ P) 30 [(0, .ref (x.2.2.2 16)), (1, .int a1)] [.int (0 : Int32)] M2) ∧ (b2 = true → JW x jtbC mX4_readStrip (d + 1) (jZ P) 30 [(0, .ref (x.2.2.2 16)), (1, .int a1)] [.int (1 : Int32)] M2))))) :
    JC x jtbC mX4_readStrip (d + 1) [.ref (x.2.2.2 16), .int a1] M (jZ P) := by
  refine JC.of rfl (Nat.le_of_ble_eq_true rfl) ?_
  refine jw_ls (ls' := [(0, .ref (x.2.2.2 16)), (1, .int a1)]) rfl ?_
  refine jw_aload_n (pc := 0) (j := 0) dX4_readStrip_0 rfl rfl ?_
  refine jw_getR (pc := 1) (r := 25) dX4_readStrip_1 sC_16 fl_X4_21 (by decide) rfl rfl ?_
  refine jw_bipush (pc := 4) (v := 12) dX4_readStrip_4 rfl ?_
  refine jw_callV (pc := 6) (m2 := mX7_takeWord) (As := [.int (12 : Int32)]) (st := []) dX4_readStrip_6 sC_25 (by decide) rfl rfl gm_X7_takeWord ml_X4_73 rfl (Nat.le_of_ble_eq_true rfl) (JC.mono h ?_)
  clear h
  rintro M1 _ ⟨b1, rfl, h⟩
  refine jw_st (st' := [.int (jb b1)]) rfl ?_
  refine jw_if_eq (pc := 9) (tgt := 29) dX4_readStrip_9 (by decide) (fun c => ?_) (fun c => ?_)
  · replace h := h.1 ((jb_0 _).mp c)
    refine jw_iconst (pc := 29) (v := 0) dX4_readStrip_29 rfl ?_
    exact jw_sub [0, 1] rfl h
  · replace h := h.2 (jb_ne c)
    refine jw_aload_n (pc := 12) (j := 0) dX4_readStrip_12 rfl rfl ?_
    refine jw_getR (pc := 13) (r := 25) dX4_readStrip_13 sC_16 fl_X4_21 (by decide) rfl rfl ?_
    refine jw_iconst (pc := 16) (v := 0) dX4_readStrip_16 rfl ?_
    refine jw_bipush (pc := 17) (v := 8) dX4_readStrip_17 rfl ?_
    refine jw_callV (pc := 19) (m2 := mX7_takeNumber) (As := [.int (0 : Int32), .int (8 : Int32)]) (st := []) dX4_readStrip_19 sC_25 (by decide) rfl rfl gm_X7_takeNumber ml_X4_101 rfl (Nat.le_of_ble_eq_true rfl) (JC.mono h ?_)
    clear h
    rintro M2 _ ⟨b2, rfl, h⟩
    refine jw_st (st' := [.int (jb b2)]) rfl ?_
    refine jw_if_eq (pc := 22) (tgt := 29) dX4_readStrip_22 (by decide) (fun c => ?_) (fun c => ?_)
    · replace h := h.1 ((jb_0 _).mp c)
      refine jw_iconst (pc := 29) (v := 0) dX4_readStrip_29 rfl ?_
      exact jw_sub [0, 1] rfl h
    · replace h := h.2 (jb_ne c)
      refine jw_iconst (pc := 25) (v := 1) dX4_readStrip_25 rfl ?_
      refine jw_goto (pc := 26) (tgt := 30) dX4_readStrip_26 (by decide) ?_
      exact jw_sub [0, 1] rfl h
set_option maxRecDepth 20000 in
theorem b_X4_readStrip_30 {x : jX} {d : Nat} {M : jM} {P : jM → Bool → Prop} {l1 : Int32} {k0 : Int32} 
    (h : ∃ j1, j1 < 60 ∧ l1 = nI j1 ∧ (∀ M1, M1 = jrI M 21 (upd (M.1 21) j1 (M.1 25 5)) → ∃ b, k0 = jb b ∧ P M1 b)) :
    JW x jtbC mX4_readStrip (d + 1) (jZ P) 30 [(0, .ref (x.2.2.2 16)), (1, .int l1)] [.int k0] M := by
  refine jw_istore_n (pc := 30) (ls' := [(2, .int k0), (0, .ref (x.2.2.2 16)), (1, .int l1)]) dX4_readStrip_30 rfl (by decide) rfl ?_
  refine jw_aload_n (pc := 31) (j := 1) dX4_readStrip_31 rfl rfl ?_
  refine jw_getR (pc := 32) (r := 17) dX4_readStrip_32 sC_16 fl_X4_12 (by decide) rfl rfl ?_
  refine jw_getR (pc := 35) (r := 21) dX4_readStrip_35 sC_17 fl_X4_138 (by decide) rfl rfl ?_
  refine jw_iload_n (pc := 38) (j := 2) dX4_readStrip_38 rfl rfl ?_
  refine jw_aload_n (pc := 39) (j := 1) dX4_readStrip_39 rfl rfl ?_
  refine jw_getR (pc := 40) (r := 25) dX4_readStrip_40 sC_16 fl_X4_21 (by decide) rfl rfl ?_
  refine jw_getI (pc := 43) dX4_readStrip_43 sC_25 fl_X4_105 (by decide) rfl ?_
  obtain ⟨j1, hj1, ej1, h⟩ := h
  refine jw_iast (pc := 46) (j := j1) dX4_readStrip_46 sC_21 hj1 ej1 (by decide) ?_
  replace h := h _ rfl
  generalize jrI M 21 (upd (M.1 21) j1 (M.1 25 5)) = M1 at h ⊢
  refine jw_iload_n (pc := 47) (j := 0) dX4_readStrip_47 rfl rfl ?_
  obtain ⟨b, eb, h⟩ := h
  rw [eb]
  exact jw_zret (pc := 48) dX4_readStrip_48 rfl (jb_01 _) ⟨_, rfl, h⟩
set_option maxRecDepth 20000 in
theorem b_X4_readCompares {x : jX} {d : Nat} {M : jM} {P : jM → Bool → Prop} {a1 : Int32} 
    (h : JC x jtbC mX7_takeCompares d [.ref (x.2.2.2 25)] M (jZ fun M1 b1 => ∃ j1, j1 < 60 ∧ a1 = nI j1 ∧ (∀ M2, M2 = jrI M1 22 (upd (M1.1 22) j1 (M1.1 25 5)) → P M2 b1))) :
    JC x jtbC mX4_readCompares (d + 1) [.ref (x.2.2.2 16), .int a1] M (jZ P) := by
  refine JC.of rfl (Nat.le_of_ble_eq_true rfl) ?_
  refine jw_ls (ls' := [(0, .ref (x.2.2.2 16)), (1, .int a1)]) rfl ?_
  refine jw_aload_n (pc := 0) (j := 0) dX4_readCompares_0 rfl rfl ?_
  refine jw_getR (pc := 1) (r := 25) dX4_readCompares_1 sC_16 fl_X4_21 (by decide) rfl rfl ?_
  refine jw_callV (pc := 4) (m2 := mX7_takeCompares) (As := []) (st := []) dX4_readCompares_4 sC_25 (by decide) rfl rfl gm_X7_takeCompares ml_X4_141 rfl (Nat.le_of_ble_eq_true rfl) (JC.mono h ?_)
  clear h
  rintro M1 _ ⟨b1, rfl, h⟩
  refine jw_st (st' := [.int (jb b1)]) rfl ?_
  refine jw_istore_n (pc := 7) (ls' := [(2, .int (jb b1)), (0, .ref (x.2.2.2 16)), (1, .int a1)]) dX4_readCompares_7 rfl (by decide) rfl ?_
  refine jw_aload_n (pc := 8) (j := 1) dX4_readCompares_8 rfl rfl ?_
  refine jw_getR (pc := 9) (r := 17) dX4_readCompares_9 sC_16 fl_X4_12 (by decide) rfl rfl ?_
  refine jw_getR (pc := 12) (r := 22) dX4_readCompares_12 sC_17 fl_X4_144 (by decide) rfl rfl ?_
  refine jw_iload_n (pc := 15) (j := 2) dX4_readCompares_15 rfl rfl ?_
  refine jw_aload_n (pc := 16) (j := 1) dX4_readCompares_16 rfl rfl ?_
  refine jw_getR (pc := 17) (r := 25) dX4_readCompares_17 sC_16 fl_X4_21 (by decide) rfl rfl ?_
  refine jw_getI (pc := 20) dX4_readCompares_20 sC_25 fl_X4_105 (by decide) rfl ?_
  obtain ⟨j1, hj1, ej1, h⟩ := h
  refine jw_iast (pc := 23) (j := j1) dX4_readCompares_23 sC_22 hj1 ej1 (by decide) ?_
  replace h := h _ rfl
  generalize jrI M1 22 (upd (M1.1 22) j1 (M1.1 25 5)) = M2 at h ⊢
  refine jw_iload_n (pc := 24) (j := 0) dX4_readCompares_24 rfl rfl ?_
  exact jw_zret (pc := 25) dX4_readCompares_25 rfl (jb_01 _) ⟨_, rfl, h⟩
