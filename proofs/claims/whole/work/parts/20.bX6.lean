set_option maxRecDepth 20000 in
theorem b_X6_readPlain {x : jX} {d : Nat} {M : jM} {P : jM → Bool → Prop} {o1 : Nat} {a2 : Int32} 
    (h : JC x jtbC mX7_begin d [.ref (x.2.2.2 13), .ref (x.2.2.2 o1), .int a2] M (jV fun M1 => ∀ M2, M2 = jrI M1 3 (upd (M1.1 3) 2 (0 : Int32)) → ∀ M3, M3 = jrI M2 3 (upd (M2.1 3) 3 (0 : Int32)) → ∀ M4, M4 = jrI M3 3 (upd (M3.1 3) 4 (0 : Int32)) → JC x jtbC mX6_readSize d [.ref (x.2.2.2 3)] M4 (jZ fun M5 b1 => (b1 = true → JW x jtbC mX6_readPlain (d + 1) (jZ P) 35 [(0, .ref (x.2.2.2 3)), (2, .int a2), (3, .int (0 : Int32))] [] M5) ∧ (b1 = false → P M5 false)))) :
    JC x jtbC mX6_readPlain (d + 1) [.ref (x.2.2.2 3), .ref (x.2.2.2 o1), .int a2] M (jZ P) := by
  refine JC.of rfl (Nat.le_of_ble_eq_true rfl) ?_
  refine jw_ls (ls' := [(0, .ref (x.2.2.2 3)), (1, .ref (x.2.2.2 o1)), (2, .int a2)]) rfl ?_
  refine jw_aload_n (pc := 0) (j := 0) dX6_readPlain_0 rfl rfl ?_
  refine jw_getR (pc := 1) (r := 13) dX6_readPlain_1 sC_3 fl_X6_21 (by decide) rfl rfl ?_
  refine jw_aload_n (pc := 4) (j := 1) dX6_readPlain_4 rfl rfl ?_
  refine jw_iload_n (pc := 5) (j := 2) dX6_readPlain_5 rfl rfl ?_
  refine jw_callV (pc := 6) (m2 := mX7_begin) (As := [.ref (x.2.2.2 o1), .int a2]) (st := []) dX6_readPlain_6 sC_13 (by decide) rfl rfl gm_X7_begin ml_X6_25 rfl (Nat.le_of_ble_eq_true rfl) (JC.mono h ?_)
  clear h
  rintro M1 _ ⟨rfl, h⟩
  refine jw_st (st' := []) rfl ?_
  refine jw_aload_n (pc := 9) (j := 0) dX6_readPlain_9 rfl rfl ?_
  refine jw_iconst (pc := 10) (v := 0) dX6_readPlain_10 rfl ?_
  refine jw_putI (pc := 11) dX6_readPlain_11 sC_3 fl_X6_29 fw_6_2 (by decide) rfl ?_
  replace h := h _ rfl
  generalize jrI M1 3 (upd (M1.1 3) 2 (0 : Int32)) = M2 at h ⊢
  refine jw_aload_n (pc := 14) (j := 0) dX6_readPlain_14 rfl rfl ?_
  refine jw_iconst (pc := 15) (v := 0) dX6_readPlain_15 rfl ?_
  refine jw_putI (pc := 16) dX6_readPlain_16 sC_3 fl_X6_33 fw_6_3 (by decide) rfl ?_
  replace h := h _ rfl
  generalize jrI M2 3 (upd (M2.1 3) 3 (0 : Int32)) = M3 at h ⊢
  refine jw_aload_n (pc := 19) (j := 0) dX6_readPlain_19 rfl rfl ?_
  refine jw_iconst (pc := 20) (v := 0) dX6_readPlain_20 rfl ?_
  refine jw_putI (pc := 21) dX6_readPlain_21 sC_3 fl_X6_36 fw_6_4 (by decide) rfl ?_
  replace h := h _ rfl
  generalize jrI M3 3 (upd (M3.1 3) 4 (0 : Int32)) = M4 at h ⊢
  refine jw_aload_n (pc := 24) (j := 0) dX6_readPlain_24 rfl rfl ?_
  refine jw_callV (pc := 25) (m2 := mX6_readSize) (As := []) (st := []) dX6_readPlain_25 sC_3 (by decide) rfl rfl gm_X6_readSize ml_X6_39 rfl (Nat.le_of_ble_eq_true rfl) (JC.mono h ?_)
  clear h
  rintro M5 _ ⟨b1, rfl, h⟩
  refine jw_st (st' := [.int (jb b1)]) rfl ?_
  refine jw_if_ne (pc := 28) (tgt := 33) dX6_readPlain_28 (by decide) (fun c => ?_) (fun c => ?_)
  · replace h := h.1 (jb_ne c)
    refine jw_iconst (pc := 33) (v := 0) dX6_readPlain_33 rfl ?_
    refine jw_istore_n (pc := 34) (ls' := [(3, .int (0 : Int32)), (0, .ref (x.2.2.2 3)), (1, .ref (x.2.2.2 o1)), (2, .int a2)]) dX6_readPlain_34 rfl (by decide) rfl ?_
    exact jw_sub [1, 3, 0] rfl h
  · replace h := h.2 ((jb_0 _).mp c)
    refine jw_iconst (pc := 31) (v := 0) dX6_readPlain_31 rfl ?_
    exact jw_zret (pc := 32) dX6_readPlain_32 rfl (Or.inl rfl) ⟨false, rfl, h⟩
set_option maxRecDepth 20000 in
theorem b_X6_readPlain_35 {x : jX} {d : Nat} {M : jM} {P : jM → Bool → Prop} {l2 : Int32} {l3 : Int32} 
    (h : (l2 ≤ l3 → P M true) ∧ (¬ l2 ≤ l3 → ((M.1 13 0) = 0 → P M true) ∧ (¬ (M.1 13 0) = 0 → JC x jtbC mX6_readPart d [.ref (x.2.2.2 3)] M (jZ fun M1 b1 => (b1 = true → JW x jtbC mX6_readPlain (d + 1) (jZ P) 35 [(0, .ref (x.2.2.2 3)), (2, .int l2), (3, .int (l3 + 1))] [] M1) ∧ (b1 = false → P M1 false))))) :
    JW x jtbC mX6_readPlain (d + 1) (jZ P) 35 [(0, .ref (x.2.2.2 3)), (2, .int l2), (3, .int l3)] [] M := by
  refine jw_iload_n (pc := 35) (j := 2) dX6_readPlain_35 rfl rfl ?_
  refine jw_iload_n (pc := 36) (j := 1) dX6_readPlain_36 rfl rfl ?_
  refine jw_icmp_ge (pc := 37) (tgt := 65) dX6_readPlain_37 (by decide) (fun c => ?_) (fun c => ?_)
  · replace h := h.1 c
    refine jw_iconst (pc := 65) (v := 1) dX6_readPlain_65 rfl ?_
    exact jw_zret (pc := 66) dX6_readPlain_66 rfl (Or.inr rfl) ⟨true, rfl, h⟩
  · replace h := h.2 c
    refine jw_aload_n (pc := 40) (j := 0) dX6_readPlain_40 rfl rfl ?_
    refine jw_getR (pc := 41) (r := 13) dX6_readPlain_41 sC_3 fl_X6_21 (by decide) rfl rfl ?_
    refine jw_getI (pc := 44) dX6_readPlain_44 sC_13 fl_X6_43 (by decide) rfl ?_
    refine jw_if_eq (pc := 47) (tgt := 65) dX6_readPlain_47 (by decide) (fun c => ?_) (fun c => ?_)
    · replace h := h.1 c
      refine jw_iconst (pc := 65) (v := 1) dX6_readPlain_65 rfl ?_
      exact jw_zret (pc := 66) dX6_readPlain_66 rfl (Or.inr rfl) ⟨true, rfl, h⟩
    · replace h := h.2 c
      refine jw_aload_n (pc := 50) (j := 0) dX6_readPlain_50 rfl rfl ?_
      refine jw_callV (pc := 51) (m2 := mX6_readPart) (As := []) (st := []) dX6_readPlain_51 sC_3 (by decide) rfl rfl gm_X6_readPart ml_X6_46 rfl (Nat.le_of_ble_eq_true rfl) (JC.mono h ?_)
      clear h
      rintro M1 _ ⟨b1, rfl, h⟩
      refine jw_st (st' := [.int (jb b1)]) rfl ?_
      refine jw_if_ne (pc := 54) (tgt := 59) dX6_readPlain_54 (by decide) (fun c => ?_) (fun c => ?_)
      · replace h := h.1 (jb_ne c)
        refine jw_iinc (pc := 59) (j := 2) (u := l3 + 1) (ls' := [(3, .int (l3 + 1)), (0, .ref (x.2.2.2 3)), (2, .int l2)]) dX6_readPlain_59 rfl rfl (by decide) rfl ?_
        refine jw_goto (pc := 62) (tgt := 35) dX6_readPlain_62 (by decide) ?_
        exact jw_sub [1, 2, 0] rfl h
      · replace h := h.2 ((jb_0 _).mp c)
        refine jw_iconst (pc := 57) (v := 0) dX6_readPlain_57 rfl ?_
        exact jw_zret (pc := 58) dX6_readPlain_58 rfl (Or.inl rfl) ⟨false, rfl, h⟩
set_option maxRecDepth 20000 in
theorem b_X6_readSize {x : jX} {d : Nat} {M : jM} {P : jM → Bool → Prop}  
    (h : JC x jtbC mX7_takeWord d [.ref (x.2.2.2 13), .int (0 : Int32)] M (jZ fun M1 b1 => (b1 = false → P M1 false) ∧ (b1 = true → JC x jtbC mX7_takeNumber d [.ref (x.2.2.2 13), .int (1 : Int32), .int (5 : Int32)] M1 (jZ fun M2 b2 => (b2 = true → JC x jtbC mX7_takeNumber d [.ref (x.2.2.2 13), .int (1 : Int32), .int (5 : Int32)] M2 (jZ fun M3 b3 => (b3 = false → P M3 false) ∧ (b3 = true → JC x jtbC mX7_takeSemicolon d [.ref (x.2.2.2 13)] M3 (jZ fun M4 b4 => (b4 = true → JC x jtbC mX5_begin d [.ref (x.2.2.2 4), .int (M2.1 13 5), .int (M4.1 13 5)] M4 (jV fun M5 => P M5 true)) ∧ (b4 = false → P M4 false))))) ∧ (b2 = false → P M2 false))))) :
    JC x jtbC mX6_readSize (d + 1) [.ref (x.2.2.2 3)] M (jZ P) := by
  refine JC.of rfl (Nat.le_of_ble_eq_true rfl) ?_
  refine jw_ls (ls' := [(0, .ref (x.2.2.2 3))]) rfl ?_
  refine jw_aload_n (pc := 0) (j := 0) dX6_readSize_0 rfl rfl ?_
  refine jw_getR (pc := 1) (r := 13) dX6_readSize_1 sC_3 fl_X6_21 (by decide) rfl rfl ?_
  refine jw_iconst (pc := 4) (v := 0) dX6_readSize_4 rfl ?_
  refine jw_callV (pc := 5) (m2 := mX7_takeWord) (As := [.int (0 : Int32)]) (st := []) dX6_readSize_5 sC_13 (by decide) rfl rfl gm_X7_takeWord ml_X6_49 rfl (Nat.le_of_ble_eq_true rfl) (JC.mono h ?_)
  clear h
  rintro M1 _ ⟨b1, rfl, h⟩
  refine jw_st (st' := [.int (jb b1)]) rfl ?_
  refine jw_if_eq (pc := 8) (tgt := 23) dX6_readSize_8 (by decide) (fun c => ?_) (fun c => ?_)
  · replace h := h.1 ((jb_0 _).mp c)
    refine jw_iconst (pc := 23) (v := 0) dX6_readSize_23 rfl ?_
    exact jw_zret (pc := 24) dX6_readSize_24 rfl (Or.inl rfl) ⟨false, rfl, h⟩
  · replace h := h.2 (jb_ne c)
    refine jw_aload_n (pc := 11) (j := 0) dX6_readSize_11 rfl rfl ?_
    refine jw_getR (pc := 12) (r := 13) dX6_readSize_12 sC_3 fl_X6_21 (by decide) rfl rfl ?_
    refine jw_iconst (pc := 15) (v := 1) dX6_readSize_15 rfl ?_
    refine jw_iconst (pc := 16) (v := 5) dX6_readSize_16 rfl ?_
    refine jw_callV (pc := 17) (m2 := mX7_takeNumber) (As := [.int (1 : Int32), .int (5 : Int32)]) (st := []) dX6_readSize_17 sC_13 (by decide) rfl rfl gm_X7_takeNumber ml_X6_53 rfl (Nat.le_of_ble_eq_true rfl) (JC.mono h ?_)
    clear h
    rintro M2 _ ⟨b2, rfl, h⟩
    refine jw_st (st' := [.int (jb b2)]) rfl ?_
    refine jw_if_ne (pc := 20) (tgt := 25) dX6_readSize_20 (by decide) (fun c => ?_) (fun c => ?_)
    · replace h := h.1 (jb_ne c)
      refine jw_aload_n (pc := 25) (j := 0) dX6_readSize_25 rfl rfl ?_
      refine jw_getR (pc := 26) (r := 13) dX6_readSize_26 sC_3 fl_X6_21 (by decide) rfl rfl ?_
      refine jw_getI (pc := 29) dX6_readSize_29 sC_13 fl_X6_57 (by decide) rfl ?_
      refine jw_istore_n (pc := 32) (ls' := [(1, .int (M2.1 13 5)), (0, .ref (x.2.2.2 3))]) dX6_readSize_32 rfl (by decide) rfl ?_
      refine jw_aload_n (pc := 33) (j := 1) dX6_readSize_33 rfl rfl ?_
      refine jw_getR (pc := 34) (r := 13) dX6_readSize_34 sC_3 fl_X6_21 (by decide) rfl rfl ?_
      refine jw_iconst (pc := 37) (v := 1) dX6_readSize_37 rfl ?_
      refine jw_iconst (pc := 38) (v := 5) dX6_readSize_38 rfl ?_
      refine jw_callV (pc := 39) (m2 := mX7_takeNumber) (As := [.int (1 : Int32), .int (5 : Int32)]) (st := []) dX6_readSize_39 sC_13 (by decide) rfl rfl gm_X7_takeNumber ml_X6_53 rfl (Nat.le_of_ble_eq_true rfl) (JC.mono h ?_)
      clear h
      rintro M3 _ ⟨b3, rfl, h⟩
      refine jw_st (st' := [.int (jb b3)]) rfl ?_
      refine jw_if_eq (pc := 42) (tgt := 55) dX6_readSize_42 (by decide) (fun c => ?_) (fun c => ?_)
      · replace h := h.1 ((jb_0 _).mp c)
        refine jw_iconst (pc := 55) (v := 0) dX6_readSize_55 rfl ?_
        exact jw_zret (pc := 56) dX6_readSize_56 rfl (Or.inl rfl) ⟨false, rfl, h⟩
      · replace h := h.2 (jb_ne c)
        refine jw_aload_n (pc := 45) (j := 1) dX6_readSize_45 rfl rfl ?_
        refine jw_getR (pc := 46) (r := 13) dX6_readSize_46 sC_3 fl_X6_21 (by decide) rfl rfl ?_
        refine jw_callV (pc := 49) (m2 := mX7_takeSemicolon) (As := []) (st := []) dX6_readSize_49 sC_13 (by decide) rfl rfl gm_X7_takeSemicolon ml_X6_60 rfl (Nat.le_of_ble_eq_true rfl) (JC.mono h ?_)
        clear h
        rintro M4 _ ⟨b4, rfl, h⟩
        refine jw_st (st' := [.int (jb b4)]) rfl ?_
        refine jw_if_ne (pc := 52) (tgt := 57) dX6_readSize_52 (by decide) (fun c => ?_) (fun c => ?_)
        · replace h := h.1 (jb_ne c)
          refine jw_aload_n (pc := 57) (j := 1) dX6_readSize_57 rfl rfl ?_
          refine jw_getR (pc := 58) (r := 4) dX6_readSize_58 sC_3 fl_X6_12 (by decide) rfl rfl ?_
          refine jw_iload_n (pc := 61) (j := 0) dX6_readSize_61 rfl rfl ?_
          refine jw_aload_n (pc := 62) (j := 1) dX6_readSize_62 rfl rfl ?_
          refine jw_getR (pc := 63) (r := 13) dX6_readSize_63 sC_3 fl_X6_21 (by decide) rfl rfl ?_
          refine jw_getI (pc := 66) dX6_readSize_66 sC_13 fl_X6_57 (by decide) rfl ?_
          refine jw_callV (pc := 69) (m2 := mX5_begin) (As := [.int (M2.1 13 5), .int (M4.1 13 5)]) (st := []) dX6_readSize_69 sC_4 (by decide) rfl rfl gm_X5_begin ml_X6_63 rfl (Nat.le_of_ble_eq_true rfl) (JC.mono h ?_)
          clear h
          rintro M5 _ ⟨rfl, h⟩
          refine jw_st (st' := []) rfl ?_
          refine jw_iconst (pc := 72) (v := 1) dX6_readSize_72 rfl ?_
          exact jw_zret (pc := 73) dX6_readSize_73 rfl (Or.inr rfl) ⟨true, rfl, h⟩
        · replace h := h.2 ((jb_0 _).mp c)
          refine jw_iconst (pc := 55) (v := 0) dX6_readSize_55 rfl ?_
          exact jw_zret (pc := 56) dX6_readSize_56 rfl (Or.inl rfl) ⟨false, rfl, h⟩
    · replace h := h.2 ((jb_0 _).mp c)
      refine jw_iconst (pc := 23) (v := 0) dX6_readSize_23 rfl ?_
      exact jw_zret (pc := 24) dX6_readSize_24 rfl (Or.inl rfl) ⟨false, rfl, h⟩
set_option maxRecDepth 20000 in
theorem b_X6_readPart {x : jX} {d : Nat} {M : jM} {P : jM → Bool → Prop}  
    (h : ((M.1 13 3) = 1 → ∀ M1, M1 = jrI M 3 (upd (M.1 3) 2 ((M.1 3 2) + (1 : Int32))) → JC x jtbC mX6_readCells d [.ref (x.2.2.2 3), .ref (x.2.2.2 5), .int (M1.1 3 2), .int (0 : Int32)] M1 (jZ fun M2 b1 => P M2 b1)) ∧ (¬ (M.1 13 3) = 1 → ((M.1 13 3) = 2 → ∀ M3, M3 = jrI M 3 (upd (M.1 3) 3 ((M.1 3 3) + (1 : Int32))) → JC x jtbC mX6_readCells d [.ref (x.2.2.2 3), .ref (x.2.2.2 6), .int (M3.1 3 3), .int (0 : Int32)] M3 (jZ fun M4 b2 => P M4 b2)) ∧ (¬ (M.1 13 3) = 2 → ((M.1 13 3) = 3 → ∀ M5, M5 = jrI M 3 (upd (M.1 3) 4 ((M.1 3 4) + (1 : Int32))) → JC x jtbC mX6_readCells d [.ref (x.2.2.2 3), .ref (x.2.2.2 7), .int (M5.1 3 4), .int (1 : Int32)] M5 (jZ fun M6 b3 => P M6 b3)) ∧ (¬ (M.1 13 3) = 3 → ((M.1 13 3) = 4 → JC x jtbC mX6_readVillage d [.ref (x.2.2.2 3)] M (jZ fun M7 b4 => P M7 b4)) ∧ (¬ (M.1 13 3) = 4 → JC x jtbC mX7_refuse d [.ref (x.2.2.2 13), .int (2 : Int32)] M (jZ fun M8 b5 => P M8 b5)))))) :
    JC x jtbC mX6_readPart (d + 1) [.ref (x.2.2.2 3)] M (jZ P) := by
  refine JC.of rfl (Nat.le_of_ble_eq_true rfl) ?_
  refine jw_ls (ls' := [(0, .ref (x.2.2.2 3))]) rfl ?_
  refine jw_aload_n (pc := 0) (j := 0) dX6_readPart_0 rfl rfl ?_
  refine jw_getR (pc := 1) (r := 13) dX6_readPart_1 sC_3 fl_X6_21 (by decide) rfl rfl ?_
  refine jw_getI (pc := 4) dX6_readPart_4 sC_13 fl_X6_66 (by decide) rfl ?_
  refine (Decidable.em ((M.1 13 3) = 1)).elim (fun c0 => ?_) (fun c0 => ?_)
  · replace h := h.1 c0
    refine jw_tableIn (pc := 7) (tgt := 36) dX6_readPart_7 (by rw [c0]; decide) (by rw [c0]; decide) (by rw [c0]; rfl) (by decide) ?_
    refine jw_aload_n (pc := 36) (j := 0) dX6_readPart_36 rfl rfl ?_
    refine jw_dup (pc := 37) dX6_readPart_37 rfl ?_
    refine jw_getI (pc := 38) dX6_readPart_38 sC_3 fl_X6_29 (by decide) rfl ?_
    refine jw_iconst (pc := 41) (v := 1) dX6_readPart_41 rfl ?_
    refine jw_iadd (pc := 42) dX6_readPart_42 ?_
    refine jw_putI (pc := 43) dX6_readPart_43 sC_3 fl_X6_29 fw_6_2 (by decide) rfl ?_
    replace h := h _ rfl
    generalize jrI M 3 (upd (M.1 3) 2 ((M.1 3 2) + (1 : Int32))) = M1 at h ⊢
    refine jw_aload_n (pc := 46) (j := 0) dX6_readPart_46 rfl rfl ?_
    refine jw_aload_n (pc := 47) (j := 0) dX6_readPart_47 rfl rfl ?_
    refine jw_getR (pc := 48) (r := 4) dX6_readPart_48 sC_3 fl_X6_12 (by decide) rfl rfl ?_
    refine jw_getR (pc := 51) (r := 5) dX6_readPart_51 sC_4 fl_X6_69 (by decide) rfl rfl ?_
    refine jw_aload_n (pc := 54) (j := 0) dX6_readPart_54 rfl rfl ?_
    refine jw_getI (pc := 55) dX6_readPart_55 sC_3 fl_X6_29 (by decide) rfl ?_
    refine jw_iconst (pc := 58) (v := 0) dX6_readPart_58 rfl ?_
    refine jw_callV (pc := 59) (m2 := mX6_readCells) (As := [.ref (x.2.2.2 5), .int (M1.1 3 2), .int (0 : Int32)]) (st := []) dX6_readPart_59 sC_3 (by decide) rfl rfl gm_X6_readCells ml_X6_73 rfl (Nat.le_of_ble_eq_true rfl) (JC.mono h ?_)
    clear h
    rintro M2 _ ⟨b1, rfl, h⟩
    refine jw_st (st' := [.int (jb b1)]) rfl ?_
    exact jw_zret (pc := 62) dX6_readPart_62 rfl (jb_01 _) ⟨_, rfl, h⟩
  · replace h := h.2 c0
    refine (Decidable.em ((M.1 13 3) = 2)).elim (fun c1 => ?_) (fun c1 => ?_)
    · replace h := h.1 c1
      refine jw_tableIn (pc := 7) (tgt := 63) dX6_readPart_7 (by rw [c1]; decide) (by rw [c1]; decide) (by rw [c1]; rfl) (by decide) ?_
      refine jw_aload_n (pc := 63) (j := 0) dX6_readPart_63 rfl rfl ?_
      refine jw_dup (pc := 64) dX6_readPart_64 rfl ?_
      refine jw_getI (pc := 65) dX6_readPart_65 sC_3 fl_X6_33 (by decide) rfl ?_
      refine jw_iconst (pc := 68) (v := 1) dX6_readPart_68 rfl ?_
      refine jw_iadd (pc := 69) dX6_readPart_69 ?_
      refine jw_putI (pc := 70) dX6_readPart_70 sC_3 fl_X6_33 fw_6_3 (by decide) rfl ?_
      replace h := h _ rfl
      generalize jrI M 3 (upd (M.1 3) 3 ((M.1 3 3) + (1 : Int32))) = M3 at h ⊢
      refine jw_aload_n (pc := 73) (j := 0) dX6_readPart_73 rfl rfl ?_
      refine jw_aload_n (pc := 74) (j := 0) dX6_readPart_74 rfl rfl ?_
      refine jw_getR (pc := 75) (r := 4) dX6_readPart_75 sC_3 fl_X6_12 (by decide) rfl rfl ?_
      refine jw_getR (pc := 78) (r := 6) dX6_readPart_78 sC_4 fl_X6_77 (by decide) rfl rfl ?_
      refine jw_aload_n (pc := 81) (j := 0) dX6_readPart_81 rfl rfl ?_
      refine jw_getI (pc := 82) dX6_readPart_82 sC_3 fl_X6_33 (by decide) rfl ?_
      refine jw_iconst (pc := 85) (v := 0) dX6_readPart_85 rfl ?_
      refine jw_callV (pc := 86) (m2 := mX6_readCells) (As := [.ref (x.2.2.2 6), .int (M3.1 3 3), .int (0 : Int32)]) (st := []) dX6_readPart_86 sC_3 (by decide) rfl rfl gm_X6_readCells ml_X6_73 rfl (Nat.le_of_ble_eq_true rfl) (JC.mono h ?_)
      clear h
      rintro M4 _ ⟨b2, rfl, h⟩
      refine jw_st (st' := [.int (jb b2)]) rfl ?_
      exact jw_zret (pc := 89) dX6_readPart_89 rfl (jb_01 _) ⟨_, rfl, h⟩
    · replace h := h.2 c1
      refine (Decidable.em ((M.1 13 3) = 3)).elim (fun c2 => ?_) (fun c2 => ?_)
      · replace h := h.1 c2
        refine jw_tableIn (pc := 7) (tgt := 90) dX6_readPart_7 (by rw [c2]; decide) (by rw [c2]; decide) (by rw [c2]; rfl) (by decide) ?_
        refine jw_aload_n (pc := 90) (j := 0) dX6_readPart_90 rfl rfl ?_
        refine jw_dup (pc := 91) dX6_readPart_91 rfl ?_
        refine jw_getI (pc := 92) dX6_readPart_92 sC_3 fl_X6_36 (by decide) rfl ?_
        refine jw_iconst (pc := 95) (v := 1) dX6_readPart_95 rfl ?_
        refine jw_iadd (pc := 96) dX6_readPart_96 ?_
        refine jw_putI (pc := 97) dX6_readPart_97 sC_3 fl_X6_36 fw_6_4 (by decide) rfl ?_
        replace h := h _ rfl
        generalize jrI M 3 (upd (M.1 3) 4 ((M.1 3 4) + (1 : Int32))) = M5 at h ⊢
        refine jw_aload_n (pc := 100) (j := 0) dX6_readPart_100 rfl rfl ?_
        refine jw_aload_n (pc := 101) (j := 0) dX6_readPart_101 rfl rfl ?_
        refine jw_getR (pc := 102) (r := 4) dX6_readPart_102 sC_3 fl_X6_12 (by decide) rfl rfl ?_
        refine jw_getR (pc := 105) (r := 7) dX6_readPart_105 sC_4 fl_X6_80 (by decide) rfl rfl ?_
        refine jw_aload_n (pc := 108) (j := 0) dX6_readPart_108 rfl rfl ?_
        refine jw_getI (pc := 109) dX6_readPart_109 sC_3 fl_X6_36 (by decide) rfl ?_
        refine jw_iconst (pc := 112) (v := 1) dX6_readPart_112 rfl ?_
        refine jw_callV (pc := 113) (m2 := mX6_readCells) (As := [.ref (x.2.2.2 7), .int (M5.1 3 4), .int (1 : Int32)]) (st := []) dX6_readPart_113 sC_3 (by decide) rfl rfl gm_X6_readCells ml_X6_73 rfl (Nat.le_of_ble_eq_true rfl) (JC.mono h ?_)
        clear h
        rintro M6 _ ⟨b3, rfl, h⟩
        refine jw_st (st' := [.int (jb b3)]) rfl ?_
        exact jw_zret (pc := 116) dX6_readPart_116 rfl (jb_01 _) ⟨_, rfl, h⟩
      · replace h := h.2 c2
        refine (Decidable.em ((M.1 13 3) = 4)).elim (fun c3 => ?_) (fun c3 => ?_)
        · replace h := h.1 c3
          refine jw_tableIn (pc := 7) (tgt := 117) dX6_readPart_7 (by rw [c3]; decide) (by rw [c3]; decide) (by rw [c3]; rfl) (by decide) ?_
          refine jw_aload_n (pc := 117) (j := 0) dX6_readPart_117 rfl rfl ?_
          refine jw_callV (pc := 118) (m2 := mX6_readVillage) (As := []) (st := []) dX6_readPart_118 sC_3 (by decide) rfl rfl gm_X6_readVillage ml_X6_83 rfl (Nat.le_of_ble_eq_true rfl) (JC.mono h ?_)
          clear h
          rintro M7 _ ⟨b4, rfl, h⟩
          refine jw_st (st' := [.int (jb b4)]) rfl ?_
          exact jw_zret (pc := 121) dX6_readPart_121 rfl (jb_01 _) ⟨_, rfl, h⟩
        · replace h := h.2 c3
          have e0 := jne_i (k := 1) (n := 1) c0 (by decide)
          have e1 := jne_i (k := 2) (n := 2) c1 (by decide)
          have e2 := jne_i (k := 3) (n := 3) c2 (by decide)
          have e3 := jne_i (k := 4) (n := 4) c3 (by decide)
          refine jw_tableOut (pc := 7) (tgt := 122) dX6_readPart_7 (by omega) (by decide) ?_
          refine jw_aload_n (pc := 122) (j := 0) dX6_readPart_122 rfl rfl ?_
          refine jw_getR (pc := 123) (r := 13) dX6_readPart_123 sC_3 fl_X6_21 (by decide) rfl rfl ?_
          refine jw_iconst (pc := 126) (v := 2) dX6_readPart_126 rfl ?_
          refine jw_callV (pc := 127) (m2 := mX7_refuse) (As := [.int (2 : Int32)]) (st := []) dX6_readPart_127 sC_13 (by decide) rfl rfl gm_X7_refuse ml_X6_86 rfl (Nat.le_of_ble_eq_true rfl) (JC.mono h ?_)
          clear h
          rintro M8 _ ⟨b5, rfl, h⟩
          refine jw_st (st' := [.int (jb b5)]) rfl ?_
          exact jw_zret (pc := 130) dX6_readPart_130 rfl (jb_01 _) ⟨_, rfl, h⟩
set_option maxRecDepth 20000 in
theorem b_X6_readCells {x : jX} {d : Nat} {M : jM} {P : jM → Bool → Prop} {o1 : Nat} {a2 : Int32} {a3 : Int32} 
    (h : (a2 ≤ (M.1 4 1) → JC x jtbC mX7_step d [.ref (x.2.2.2 13)] M (jV fun M1 => JC x jtbC mX6_readRow d [.ref (x.2.2.2 3), .ref (x.2.2.2 o1), .int ((a2 - (1 : Int32)) * (M1.1 4 0)), .int (M1.1 4 0), .int a3] M1 (jZ fun M2 b1 => P M2 b1))) ∧ (¬ a2 ≤ (M.1 4 1) → JC x jtbC mX7_refuse d [.ref (x.2.2.2 13), .int (6 : Int32)] M (jZ fun M3 b2 => P M3 b2))) :
    JC x jtbC mX6_readCells (d + 1) [.ref (x.2.2.2 3), .ref (x.2.2.2 o1), .int a2, .int a3] M (jZ P) := by
  refine JC.of rfl (Nat.le_of_ble_eq_true rfl) ?_
  refine jw_ls (ls' := [(0, .ref (x.2.2.2 3)), (1, .ref (x.2.2.2 o1)), (2, .int a2), (3, .int a3)]) rfl ?_
  refine jw_iload_n (pc := 0) (j := 2) dX6_readCells_0 rfl rfl ?_
  refine jw_aload_n (pc := 1) (j := 0) dX6_readCells_1 rfl rfl ?_
  refine jw_getR (pc := 2) (r := 4) dX6_readCells_2 sC_3 fl_X6_12 (by decide) rfl rfl ?_
  refine jw_getI (pc := 5) dX6_readCells_5 sC_4 fl_X6_89 (by decide) rfl ?_
  refine jw_icmp_le (pc := 8) (tgt := 21) dX6_readCells_8 (by decide) (fun c => ?_) (fun c => ?_)
  · replace h := h.1 c
    refine jw_aload_n (pc := 21) (j := 0) dX6_readCells_21 rfl rfl ?_
    refine jw_getR (pc := 22) (r := 13) dX6_readCells_22 sC_3 fl_X6_21 (by decide) rfl rfl ?_
    refine jw_callV (pc := 25) (m2 := mX7_step) (As := []) (st := []) dX6_readCells_25 sC_13 (by decide) rfl rfl gm_X7_step ml_X6_92 rfl (Nat.le_of_ble_eq_true rfl) (JC.mono h ?_)
    clear h
    rintro M1 _ ⟨rfl, h⟩
    refine jw_st (st' := []) rfl ?_
    refine jw_aload_n (pc := 28) (j := 0) dX6_readCells_28 rfl rfl ?_
    refine jw_aload_n (pc := 29) (j := 1) dX6_readCells_29 rfl rfl ?_
    refine jw_iload_n (pc := 30) (j := 2) dX6_readCells_30 rfl rfl ?_
    refine jw_iconst (pc := 31) (v := 1) dX6_readCells_31 rfl ?_
    refine jw_isub (pc := 32) dX6_readCells_32 ?_
    refine jw_aload_n (pc := 33) (j := 0) dX6_readCells_33 rfl rfl ?_
    refine jw_getR (pc := 34) (r := 4) dX6_readCells_34 sC_3 fl_X6_12 (by decide) rfl rfl ?_
    refine jw_getI (pc := 37) dX6_readCells_37 sC_4 fl_X6_95 (by decide) rfl ?_
    refine jw_imul (pc := 40) dX6_readCells_40 ?_
    refine jw_aload_n (pc := 41) (j := 0) dX6_readCells_41 rfl rfl ?_
    refine jw_getR (pc := 42) (r := 4) dX6_readCells_42 sC_3 fl_X6_12 (by decide) rfl rfl ?_
    refine jw_getI (pc := 45) dX6_readCells_45 sC_4 fl_X6_95 (by decide) rfl ?_
    refine jw_iload_n (pc := 48) (j := 3) dX6_readCells_48 rfl rfl ?_
    refine jw_callV (pc := 49) (m2 := mX6_readRow) (As := [.ref (x.2.2.2 o1), .int ((a2 - (1 : Int32)) * (M1.1 4 0)), .int (M1.1 4 0), .int a3]) (st := []) dX6_readCells_49 sC_3 (by decide) rfl rfl gm_X6_readRow ml_X6_98 rfl (Nat.le_of_ble_eq_true rfl) (JC.mono h ?_)
    clear h
    rintro M2 _ ⟨b1, rfl, h⟩
    refine jw_st (st' := [.int (jb b1)]) rfl ?_
    exact jw_zret (pc := 52) dX6_readCells_52 rfl (jb_01 _) ⟨_, rfl, h⟩
  · replace h := h.2 c
    refine jw_aload_n (pc := 11) (j := 0) dX6_readCells_11 rfl rfl ?_
    refine jw_getR (pc := 12) (r := 13) dX6_readCells_12 sC_3 fl_X6_21 (by decide) rfl rfl ?_
    refine jw_bipush (pc := 15) (v := 6) dX6_readCells_15 rfl ?_
    refine jw_callV (pc := 17) (m2 := mX7_refuse) (As := [.int (6 : Int32)]) (st := []) dX6_readCells_17 sC_13 (by decide) rfl rfl gm_X7_refuse ml_X6_86 rfl (Nat.le_of_ble_eq_true rfl) (JC.mono h ?_)
    clear h
    rintro M3 _ ⟨b2, rfl, h⟩
    refine jw_st (st' := [.int (jb b2)]) rfl ?_
    exact jw_zret (pc := 20) dX6_readCells_20 rfl (jb_01 _) ⟨_, rfl, h⟩
set_option maxRecDepth 20000 in
theorem b_X6_readRow {x : jX} {d : Nat} {M : jM} {P : jM → Bool → Prop} {o1 : Nat} {a2 : Int32} {a3 : Int32} {a4 : Int32} 
    (h : JW x jtbC mX6_readRow (d + 1) (jZ P) 3 [(0, .ref (x.2.2.2 3)), (1, .ref (x.2.2.2 o1)), (2, .int a2), (3, .int a3), (4, .int a4), (5, .int (0 : Int32))] [] M) :
    JC x jtbC mX6_readRow (d + 1) [.ref (x.2.2.2 3), .ref (x.2.2.2 o1), .int a2, .int a3, .int a4] M (jZ P) := by
  refine JC.of rfl (Nat.le_of_ble_eq_true rfl) ?_
  refine jw_ls (ls' := [(0, .ref (x.2.2.2 3)), (1, .ref (x.2.2.2 o1)), (2, .int a2), (3, .int a3), (4, .int a4)]) rfl ?_
  refine jw_iconst (pc := 0) (v := 0) dX6_readRow_0 rfl ?_
  refine jw_istore (pc := 1) (ls' := [(5, .int (0 : Int32)), (0, .ref (x.2.2.2 3)), (1, .ref (x.2.2.2 o1)), (2, .int a2), (3, .int a3), (4, .int a4)]) dX6_readRow_1 (by decide) rfl ?_
  exact jw_sub [1, 2, 3, 4, 5, 0] rfl h
set_option maxRecDepth 20000 in
theorem b_X6_readRow_3 {x : jX} {d : Nat} {M : jM} {P : jM → Bool → Prop} {o1 : Nat} {l2 : Int32} {l3 : Int32} {l4 : Int32} {l5 : Int32} 
    (h : (l3 ≤ l5 → JW x jtbC mX6_readRow (d + 1) (jZ P) 60 [(0, .ref (x.2.2.2 3)), (3, .int l3), (4, .int l4), (5, .int l5)] [] M) ∧ (¬ l3 ≤ l5 → (l5 = 0 → JW x jtbC mX6_readRow (d + 1) (jZ P) 25 [(0, .ref (x.2.2.2 3)), (1, .ref (x.2.2.2 o1)), (2, .int l2), (3, .int l3), (4, .int l4), (5, .int l5)] [] M) ∧ (¬ l5 = 0 → (¬ (M.1 13 0) = (3 : Int32) → JW x jtbC mX6_readRow (d + 1) (jZ P) 60 [(0, .ref (x.2.2.2 3)), (3, .int l3), (4, .int l4), (5, .int l5)] [] M) ∧ ((M.1 13 0) = (3 : Int32) → JW x jtbC mX6_readRow (d + 1) (jZ P) 25 [(0, .ref (x.2.2.2 3)), (1, .ref (x.2.2.2 o1)), (2, .int l2), (3, .int l3), (4, .int l4), (5, .int l5)] [] M)))) :
    JW x jtbC mX6_readRow (d + 1) (jZ P) 3 [(0, .ref (x.2.2.2 3)), (1, .ref (x.2.2.2 o1)), (2, .int l2), (3, .int l3), (4, .int l4), (5, .int l5)] [] M := by
  refine jw_iload (pc := 3) (j := 5) dX6_readRow_3 rfl ?_
  refine jw_iload_n (pc := 5) (j := 3) dX6_readRow_5 rfl rfl ?_
  refine jw_icmp_ge (pc := 6) (tgt := 60) dX6_readRow_6 (by decide) (fun c => ?_) (fun c => ?_)
  · replace h := h.1 c
    exact jw_sub [0, 3, 4, 5] rfl h
  · replace h := h.2 c
    refine jw_iload (pc := 9) (j := 5) dX6_readRow_9 rfl ?_
    refine jw_if_eq (pc := 11) (tgt := 25) dX6_readRow_11 (by decide) (fun c => ?_) (fun c => ?_)
    · replace h := h.1 c
      exact jw_sub [0, 1, 2, 3, 4, 5] rfl h
    · replace h := h.2 c
      refine jw_aload_n (pc := 14) (j := 0) dX6_readRow_14 rfl rfl ?_
      refine jw_getR (pc := 15) (r := 13) dX6_readRow_15 sC_3 fl_X6_21 (by decide) rfl rfl ?_
      refine jw_getI (pc := 18) dX6_readRow_18 sC_13 fl_X6_43 (by decide) rfl ?_
      refine jw_iconst (pc := 21) (v := 3) dX6_readRow_21 rfl ?_
      refine jw_icmp_ne (pc := 22) (tgt := 60) dX6_readRow_22 (by decide) (fun c => ?_) (fun c => ?_)
      · replace h := h.1 c
        exact jw_sub [0, 3, 4, 5] rfl h
      · replace h := h.2 c
        exact jw_sub [0, 1, 2, 3, 4, 5] rfl h
set_option maxRecDepth 20000 in
theorem b_X6_readRow_25 {x : jX} {d : Nat} {M : jM} {P : jM → Bool → Prop} {o1 : Nat} {n1 : Nat} {l2 : Int32} {l3 : Int32} {l4 : Int32} {l5 : Int32} (s1 : js jtbC o1 = (20, n1)) (z1 : n1 < 2 ^ 31)
    (h : JC x jtbC mX7_takeNumber d [.ref (x.2.2.2 13), .int l4, .int (99 : Int32)] M (jZ fun M1 b1 => (b1 = true → ∃ j1, j1 < n1 ∧ l2 + l5 = nI j1 ∧ (∀ M2, M2 = jrI M1 o1 (upd (M1.1 o1) j1 (M1.1 13 5)) → JW x jtbC mX6_readRow (d + 1) (jZ P) 3 [(0, .ref (x.2.2.2 3)), (1, .ref (x.2.2.2 o1)), (2, .int l2), (3, .int l3), (4, .int l4), (5, .int (l5 + 1))] [] M2)) ∧ (b1 = false → P M1 false))) :
    JW x jtbC mX6_readRow (d + 1) (jZ P) 25 [(0, .ref (x.2.2.2 3)), (1, .ref (x.2.2.2 o1)), (2, .int l2), (3, .int l3), (4, .int l4), (5, .int l5)] [] M := by
  refine jw_aload_n (pc := 25) (j := 0) dX6_readRow_25 rfl rfl ?_
  refine jw_getR (pc := 26) (r := 13) dX6_readRow_26 sC_3 fl_X6_21 (by decide) rfl rfl ?_
  refine jw_iload (pc := 29) (j := 4) dX6_readRow_29 rfl ?_
  refine jw_bipush (pc := 31) (v := 99) dX6_readRow_31 rfl ?_
  refine jw_callV (pc := 33) (m2 := mX7_takeNumber) (As := [.int l4, .int (99 : Int32)]) (st := []) dX6_readRow_33 sC_13 (by decide) rfl rfl gm_X7_takeNumber ml_X6_53 rfl (Nat.le_of_ble_eq_true rfl) (JC.mono h ?_)
  clear h
  rintro M1 _ ⟨b1, rfl, h⟩
  refine jw_st (st' := [.int (jb b1)]) rfl ?_
  refine jw_if_ne (pc := 36) (tgt := 41) dX6_readRow_36 (by decide) (fun c => ?_) (fun c => ?_)
  · replace h := h.1 (jb_ne c)
    refine jw_aload_n (pc := 41) (j := 1) dX6_readRow_41 rfl rfl ?_
    refine jw_iload_n (pc := 42) (j := 2) dX6_readRow_42 rfl rfl ?_
    refine jw_iload (pc := 43) (j := 5) dX6_readRow_43 rfl ?_
    refine jw_iadd (pc := 45) dX6_readRow_45 ?_
    refine jw_aload_n (pc := 46) (j := 0) dX6_readRow_46 rfl rfl ?_
    refine jw_getR (pc := 47) (r := 13) dX6_readRow_47 sC_3 fl_X6_21 (by decide) rfl rfl ?_
    refine jw_getI (pc := 50) dX6_readRow_50 sC_13 fl_X6_57 (by decide) rfl ?_
    obtain ⟨j1, hj1, ej1, h⟩ := h
    refine jw_iast (pc := 53) (j := j1) dX6_readRow_53 s1 hj1 ej1 z1 ?_
    replace h := h _ rfl
    generalize jrI M1 o1 (upd (M1.1 o1) j1 (M1.1 13 5)) = M2 at h ⊢
    refine jw_iinc (pc := 54) (j := 5) (u := l5 + 1) (ls' := [(5, .int (l5 + 1)), (0, .ref (x.2.2.2 3)), (1, .ref (x.2.2.2 o1)), (2, .int l2), (3, .int l3), (4, .int l4)]) dX6_readRow_54 rfl rfl (by decide) rfl ?_
    refine jw_goto (pc := 57) (tgt := 3) dX6_readRow_57 (by decide) ?_
    exact jw_sub [1, 2, 3, 4, 5, 0] rfl h
  · replace h := h.2 ((jb_0 _).mp c)
    refine jw_iconst (pc := 39) (v := 0) dX6_readRow_39 rfl ?_
    exact jw_zret (pc := 40) dX6_readRow_40 rfl (Or.inl rfl) ⟨false, rfl, h⟩
set_option maxRecDepth 20000 in
theorem b_X6_readRow_60 {x : jX} {d : Nat} {M : jM} {P : jM → Bool → Prop} {l3 : Int32} {l4 : Int32} {l5 : Int32} 
    (h : (¬ (M.1 13 0) = (3 : Int32) → (¬ (M.1 13 0) = (4 : Int32) → JW x jtbC mX6_readRow (d + 1) (jZ P) 149 [(0, .ref (x.2.2.2 3)), (3, .int l3), (5, .int l5)] [.int (0 : Int32)] M) ∧ ((M.1 13 0) = (4 : Int32) → (¬ (M.1 13 2) = (59 : Int32) → JW x jtbC mX6_readRow (d + 1) (jZ P) 149 [(0, .ref (x.2.2.2 3)), (3, .int l3), (5, .int l5)] [.int (0 : Int32)] M) ∧ ((M.1 13 2) = (59 : Int32) → JW x jtbC mX6_readRow (d + 1) (jZ P) 149 [(0, .ref (x.2.2.2 3)), (3, .int l3), (5, .int l5)] [.int (1 : Int32)] M))) ∧ ((M.1 13 0) = (3 : Int32) → ((M.1 13 1) < l4 → JW x jtbC mX6_readRow (d + 1) (jZ P) 100 [(0, .ref (x.2.2.2 3))] [.int (0 : Int32)] M) ∧ (¬ (M.1 13 1) < l4 → ((99 : Int32) < (M.1 13 1) → JW x jtbC mX6_readRow (d + 1) (jZ P) 100 [(0, .ref (x.2.2.2 3))] [.int (0 : Int32)] M) ∧ (¬ (99 : Int32) < (M.1 13 1) → JW x jtbC mX6_readRow (d + 1) (jZ P) 100 [(0, .ref (x.2.2.2 3))] [.int (1 : Int32)] M)))) :
    JW x jtbC mX6_readRow (d + 1) (jZ P) 60 [(0, .ref (x.2.2.2 3)), (3, .int l3), (4, .int l4), (5, .int l5)] [] M := by
  refine jw_aload_n (pc := 60) (j := 0) dX6_readRow_60 rfl rfl ?_
  refine jw_getR (pc := 61) (r := 13) dX6_readRow_61 sC_3 fl_X6_21 (by decide) rfl rfl ?_
  refine jw_getI (pc := 64) dX6_readRow_64 sC_13 fl_X6_43 (by decide) rfl ?_
  refine jw_iconst (pc := 67) (v := 3) dX6_readRow_67 rfl ?_
  refine jw_icmp_ne (pc := 68) (tgt := 121) dX6_readRow_68 (by decide) (fun c => ?_) (fun c => ?_)
  · replace h := h.1 c
    refine jw_aload_n (pc := 121) (j := 0) dX6_readRow_121 rfl rfl ?_
    refine jw_getR (pc := 122) (r := 13) dX6_readRow_122 sC_3 fl_X6_21 (by decide) rfl rfl ?_
    refine jw_getI (pc := 125) dX6_readRow_125 sC_13 fl_X6_43 (by decide) rfl ?_
    refine jw_iconst (pc := 128) (v := 4) dX6_readRow_128 rfl ?_
    refine jw_icmp_ne (pc := 129) (tgt := 148) dX6_readRow_129 (by decide) (fun c => ?_) (fun c => ?_)
    · replace h := h.1 c
      refine jw_iconst (pc := 148) (v := 0) dX6_readRow_148 rfl ?_
      exact jw_sub [0, 1, 3] rfl h
    · replace h := h.2 c
      refine jw_aload_n (pc := 132) (j := 0) dX6_readRow_132 rfl rfl ?_
      refine jw_getR (pc := 133) (r := 13) dX6_readRow_133 sC_3 fl_X6_21 (by decide) rfl rfl ?_
      refine jw_getI (pc := 136) dX6_readRow_136 sC_13 fl_X6_105 (by decide) rfl ?_
      refine jw_bipush (pc := 139) (v := 59) dX6_readRow_139 rfl ?_
      refine jw_icmp_ne (pc := 141) (tgt := 148) dX6_readRow_141 (by decide) (fun c => ?_) (fun c => ?_)
      · replace h := h.1 c
        refine jw_iconst (pc := 148) (v := 0) dX6_readRow_148 rfl ?_
        exact jw_sub [0, 1, 3] rfl h
      · replace h := h.2 c
        refine jw_iconst (pc := 144) (v := 1) dX6_readRow_144 rfl ?_
        refine jw_goto (pc := 145) (tgt := 149) dX6_readRow_145 (by decide) ?_
        exact jw_sub [0, 1, 3] rfl h
  · replace h := h.2 c
    refine jw_aload_n (pc := 71) (j := 0) dX6_readRow_71 rfl rfl ?_
    refine jw_getR (pc := 72) (r := 13) dX6_readRow_72 sC_3 fl_X6_21 (by decide) rfl rfl ?_
    refine jw_getI (pc := 75) dX6_readRow_75 sC_13 fl_X6_102 (by decide) rfl ?_
    refine jw_iload (pc := 78) (j := 2) dX6_readRow_78 rfl ?_
    refine jw_icmp_lt (pc := 80) (tgt := 99) dX6_readRow_80 (by decide) (fun c => ?_) (fun c => ?_)
    · replace h := h.1 c
      refine jw_iconst (pc := 99) (v := 0) dX6_readRow_99 rfl ?_
      exact jw_sub [0] rfl h
    · replace h := h.2 c
      refine jw_aload_n (pc := 83) (j := 0) dX6_readRow_83 rfl rfl ?_
      refine jw_getR (pc := 84) (r := 13) dX6_readRow_84 sC_3 fl_X6_21 (by decide) rfl rfl ?_
      refine jw_getI (pc := 87) dX6_readRow_87 sC_13 fl_X6_102 (by decide) rfl ?_
      refine jw_bipush (pc := 90) (v := 99) dX6_readRow_90 rfl ?_
      refine jw_icmp_gt (pc := 92) (tgt := 99) dX6_readRow_92 (by decide) (fun c => ?_) (fun c => ?_)
      · replace h := h.1 c
        refine jw_iconst (pc := 99) (v := 0) dX6_readRow_99 rfl ?_
        exact jw_sub [0] rfl h
      · replace h := h.2 c
        refine jw_iconst (pc := 95) (v := 1) dX6_readRow_95 rfl ?_
        refine jw_goto (pc := 96) (tgt := 100) dX6_readRow_96 (by decide) ?_
        exact jw_sub [0] rfl h
set_option maxRecDepth 20000 in
theorem b_X6_readRow_100 {x : jX} {d : Nat} {M : jM} {P : jM → Bool → Prop} {k0 : Int32} 
    (h : (k0 = 0 → JC x jtbC mX7_refuse d [.ref (x.2.2.2 13), .int (4 : Int32)] M (jZ fun M1 b1 => P M1 b1)) ∧ (¬ k0 = 0 → JC x jtbC mX7_refuse d [.ref (x.2.2.2 13), .int (6 : Int32)] M (jZ fun M2 b2 => P M2 b2))) :
    JW x jtbC mX6_readRow (d + 1) (jZ P) 100 [(0, .ref (x.2.2.2 3))] [.int k0] M := by
  refine jw_istore (pc := 100) (ls' := [(6, .int k0), (0, .ref (x.2.2.2 3))]) dX6_readRow_100 (by decide) rfl ?_
  refine jw_aload_n (pc := 102) (j := 1) dX6_readRow_102 rfl rfl ?_
  refine jw_getR (pc := 103) (r := 13) dX6_readRow_103 sC_3 fl_X6_21 (by decide) rfl rfl ?_
  refine jw_iload (pc := 106) (j := 0) dX6_readRow_106 rfl ?_
  refine jw_if_eq (pc := 108) (tgt := 116) dX6_readRow_108 (by decide) (fun c => ?_) (fun c => ?_)
  · replace h := h.1 c
    refine jw_iconst (pc := 116) (v := 4) dX6_readRow_116 rfl ?_
    refine jw_callV (pc := 117) (m2 := mX7_refuse) (As := [.int (4 : Int32)]) (st := []) dX6_readRow_117 sC_13 (by decide) rfl rfl gm_X7_refuse ml_X6_86 rfl (Nat.le_of_ble_eq_true rfl) (JC.mono h ?_)
    clear h
    rintro M1 _ ⟨b1, rfl, h⟩
    refine jw_st (st' := [.int (jb b1)]) rfl ?_
    exact jw_zret (pc := 120) dX6_readRow_120 rfl (jb_01 _) ⟨_, rfl, h⟩
  · replace h := h.2 c
    refine jw_bipush (pc := 111) (v := 6) dX6_readRow_111 rfl ?_
    refine jw_goto (pc := 113) (tgt := 117) dX6_readRow_113 (by decide) ?_
    refine jw_callV (pc := 117) (m2 := mX7_refuse) (As := [.int (6 : Int32)]) (st := []) dX6_readRow_117 sC_13 (by decide) rfl rfl gm_X7_refuse ml_X6_86 rfl (Nat.le_of_ble_eq_true rfl) (JC.mono h ?_)
    clear h
    rintro M2 _ ⟨b2, rfl, h⟩
    refine jw_st (st' := [.int (jb b2)]) rfl ?_
    exact jw_zret (pc := 120) dX6_readRow_120 rfl (jb_01 _) ⟨_, rfl, h⟩
set_option maxRecDepth 20000 in
theorem b_X6_readRow_149 {x : jX} {d : Nat} {M : jM} {P : jM → Bool → Prop} {l3 : Int32} {l5 : Int32} {k0 : Int32} 
    (h : (k0 = 0 → JC x jtbC mX7_takeSemicolon d [.ref (x.2.2.2 13)] M (jZ fun M1 b1 => P M1 b1)) ∧ (¬ k0 = 0 → (l3 ≤ l5 → JC x jtbC mX7_takeSemicolon d [.ref (x.2.2.2 13)] M (jZ fun M2 b2 => P M2 b2)) ∧ (¬ l3 ≤ l5 → JC x jtbC mX7_refuse d [.ref (x.2.2.2 13), .int (7 : Int32)] M (jZ fun M3 b3 => P M3 b3)))) :
    JW x jtbC mX6_readRow (d + 1) (jZ P) 149 [(0, .ref (x.2.2.2 3)), (3, .int l3), (5, .int l5)] [.int k0] M := by
  refine jw_istore (pc := 149) (ls' := [(6, .int k0), (0, .ref (x.2.2.2 3)), (3, .int l3), (5, .int l5)]) dX6_readRow_149 (by decide) rfl ?_
  refine jw_iload (pc := 151) (j := 0) dX6_readRow_151 rfl ?_
  refine jw_if_eq (pc := 153) (tgt := 174) dX6_readRow_153 (by decide) (fun c => ?_) (fun c => ?_)
  · replace h := h.1 c
    refine jw_aload_n (pc := 174) (j := 1) dX6_readRow_174 rfl rfl ?_
    refine jw_getR (pc := 175) (r := 13) dX6_readRow_175 sC_3 fl_X6_21 (by decide) rfl rfl ?_
    refine jw_callV (pc := 178) (m2 := mX7_takeSemicolon) (As := []) (st := []) dX6_readRow_178 sC_13 (by decide) rfl rfl gm_X7_takeSemicolon ml_X6_60 rfl (Nat.le_of_ble_eq_true rfl) (JC.mono h ?_)
    clear h
    rintro M1 _ ⟨b1, rfl, h⟩
    refine jw_st (st' := [.int (jb b1)]) rfl ?_
    exact jw_zret (pc := 181) dX6_readRow_181 rfl (jb_01 _) ⟨_, rfl, h⟩
  · replace h := h.2 c
    refine jw_iload (pc := 156) (j := 3) dX6_readRow_156 rfl ?_
    refine jw_iload_n (pc := 158) (j := 2) dX6_readRow_158 rfl rfl ?_
    refine jw_icmp_ge (pc := 159) (tgt := 174) dX6_readRow_159 (by decide) (fun c => ?_) (fun c => ?_)
    · replace h := h.1 c
      refine jw_aload_n (pc := 174) (j := 1) dX6_readRow_174 rfl rfl ?_
      refine jw_getR (pc := 175) (r := 13) dX6_readRow_175 sC_3 fl_X6_21 (by decide) rfl rfl ?_
      refine jw_callV (pc := 178) (m2 := mX7_takeSemicolon) (As := []) (st := []) dX6_readRow_178 sC_13 (by decide) rfl rfl gm_X7_takeSemicolon ml_X6_60 rfl (Nat.le_of_ble_eq_true rfl) (JC.mono h ?_)
      clear h
      rintro M2 _ ⟨b2, rfl, h⟩
      refine jw_st (st' := [.int (jb b2)]) rfl ?_
      exact jw_zret (pc := 181) dX6_readRow_181 rfl (jb_01 _) ⟨_, rfl, h⟩
    · replace h := h.2 c
      refine jw_aload_n (pc := 162) (j := 1) dX6_readRow_162 rfl rfl ?_
      refine jw_getR (pc := 163) (r := 13) dX6_readRow_163 sC_3 fl_X6_21 (by decide) rfl rfl ?_
      refine jw_bipush (pc := 166) (v := 7) dX6_readRow_166 rfl ?_
      refine jw_callV (pc := 168) (m2 := mX7_refuse) (As := [.int (7 : Int32)]) (st := []) dX6_readRow_168 sC_13 (by decide) rfl rfl gm_X7_refuse ml_X6_86 rfl (Nat.le_of_ble_eq_true rfl) (JC.mono h ?_)
      clear h
      rintro M3 _ ⟨b3, rfl, h⟩
      refine jw_st (st' := [.int (jb b3)]) rfl ?_
      refine jw_goto (pc := 171) (tgt := 181) dX6_readRow_171 (by decide) ?_
      exact jw_zret (pc := 181) dX6_readRow_181 rfl (jb_01 _) ⟨_, rfl, h⟩
set_option maxRecDepth 20000 in
theorem b_X6_readVillage {x : jX} {d : Nat} {M : jM} {P : jM → Bool → Prop}  
    (h : ((M.1 4 3) < (6 : Int32) → JC x jtbC mX7_step d [.ref (x.2.2.2 13)] M (jV fun M1 => JC x jtbC mX7_isName d [.ref (x.2.2.2 13)] M1 (jZ fun M2 b1 => (b1 = true → JC x jtbC mX5_villageNamed d [.ref (x.2.2.2 4), .long (M2.2 13 4)] M2 (jI fun M3 r1 => (r1 = (-1 : Int32) → ∃ j1, j1 < 6 ∧ M.1 4 3 = nI j1 ∧ (∀ M4, M4 = jrL M3 8 (vp_updL (M3.2 8) j1 (M3.2 13 4)) → JC x jtbC mX7_step d [.ref (x.2.2.2 13)] M4 (jV fun M5 => JC x jtbC mX7_isSide d [.ref (x.2.2.2 13)] M5 (jZ fun M6 b2 => (b2 = true → ∀ M7, M7 = jrI M6 9 (upd (M6.1 9) j1 ((M6.1 13 3) - (18 : Int32))) → ∀ M8, M8 = jrI M7 4 (upd (M7.1 4) 3 ((M7.1 4 3) + (1 : Int32))) → JC x jtbC mX7_step d [.ref (x.2.2.2 13)] M8 (jV fun M9 => ((M9.1 13 3) = (5 : Int32) → ∀ M10, M10 = jrI M9 4 (upd (M9.1 4) 4 ((M9.1 4 4) ||| ((1 : Int32) <<< ((M.1 4 3) &&& 31)))) → JC x jtbC mX7_step d [.ref (x.2.2.2 13)] M10 (jV fun M11 => JC x jtbC mX5_stripsOf d [.ref (x.2.2.2 4), .int (M.1 4 3)] M11 (jI fun M12 r2 => JC x jtbC mX6_readRow d [.ref (x.2.2.2 3), .ref (x.2.2.2 10), .int ((M.1 4 3) * (9 : Int32)), .int r2, .int (0 : Int32)] M12 (jZ fun M13 b3 => P M13 b3)))) ∧ (¬ (M9.1 13 3) = (5 : Int32) → JC x jtbC mX7_takeSemicolon d [.ref (x.2.2.2 13)] M9 (jZ fun M14 b4 => P M14 b4)))) ∧ (b2 = false → JC x jtbC mX7_refuse d [.ref (x.2.2.2 13), .int (2 : Int32)] M6 (jZ fun M15 b5 => P M15 b5)))))) ∧ (¬ r1 = (-1 : Int32) → JC x jtbC mX7_refuse d [.ref (x.2.2.2 13), .int (3 : Int32)] M3 (jZ fun M16 b6 => P M16 b6)))) ∧ (b1 = false → JC x jtbC mX7_refuse d [.ref (x.2.2.2 13), .int (2 : Int32)] M2 (jZ fun M17 b7 => P M17 b7))))) ∧ (¬ (M.1 4 3) < (6 : Int32) → JC x jtbC mX7_refuse d [.ref (x.2.2.2 13), .int (6 : Int32)] M (jZ fun M18 b8 => P M18 b8))) :
    JC x jtbC mX6_readVillage (d + 1) [.ref (x.2.2.2 3)] M (jZ P) := by
  refine JC.of rfl (Nat.le_of_ble_eq_true rfl) ?_
  refine jw_ls (ls' := [(0, .ref (x.2.2.2 3))]) rfl ?_
  refine jw_aload_n (pc := 0) (j := 0) dX6_readVillage_0 rfl rfl ?_
  refine jw_getR (pc := 1) (r := 4) dX6_readVillage_1 sC_3 fl_X6_12 (by decide) rfl rfl ?_
  refine jw_getI (pc := 4) dX6_readVillage_4 sC_4 fl_X6_108 (by decide) rfl ?_
  refine jw_istore_n (pc := 7) (ls' := [(1, .int (M.1 4 3)), (0, .ref (x.2.2.2 3))]) dX6_readVillage_7 rfl (by decide) rfl ?_
  refine jw_iload_n (pc := 8) (j := 0) dX6_readVillage_8 rfl rfl ?_
  refine jw_bipush (pc := 9) (v := 6) dX6_readVillage_9 rfl ?_
  refine jw_icmp_lt (pc := 11) (tgt := 24) dX6_readVillage_11 (by decide) (fun c => ?_) (fun c => ?_)
  · replace h := h.1 c
    refine jw_aload_n (pc := 24) (j := 1) dX6_readVillage_24 rfl rfl ?_
    refine jw_getR (pc := 25) (r := 13) dX6_readVillage_25 sC_3 fl_X6_21 (by decide) rfl rfl ?_
    refine jw_callV (pc := 28) (m2 := mX7_step) (As := []) (st := []) dX6_readVillage_28 sC_13 (by decide) rfl rfl gm_X7_step ml_X6_92 rfl (Nat.le_of_ble_eq_true rfl) (JC.mono h ?_)
    clear h
    rintro M1 _ ⟨rfl, h⟩
    refine jw_st (st' := []) rfl ?_
    refine jw_aload_n (pc := 31) (j := 1) dX6_readVillage_31 rfl rfl ?_
    refine jw_getR (pc := 32) (r := 13) dX6_readVillage_32 sC_3 fl_X6_21 (by decide) rfl rfl ?_
    refine jw_callV (pc := 35) (m2 := mX7_isName) (As := []) (st := []) dX6_readVillage_35 sC_13 (by decide) rfl rfl gm_X7_isName ml_X6_111 rfl (Nat.le_of_ble_eq_true rfl) (JC.mono h ?_)
    clear h
    rintro M2 _ ⟨b1, rfl, h⟩
    refine jw_st (st' := [.int (jb b1)]) rfl ?_
    refine jw_if_ne (pc := 38) (tgt := 50) dX6_readVillage_38 (by decide) (fun c => ?_) (fun c => ?_)
    · replace h := h.1 (jb_ne c)
      refine jw_aload_n (pc := 50) (j := 1) dX6_readVillage_50 rfl rfl ?_
      refine jw_getR (pc := 51) (r := 4) dX6_readVillage_51 sC_3 fl_X6_12 (by decide) rfl rfl ?_
      refine jw_aload_n (pc := 54) (j := 1) dX6_readVillage_54 rfl rfl ?_
      refine jw_getR (pc := 55) (r := 13) dX6_readVillage_55 sC_3 fl_X6_21 (by decide) rfl rfl ?_
      refine jw_getL (pc := 58) dX6_readVillage_58 sC_13 fl_X6_114 (by decide) rfl ?_
      refine jw_callV (pc := 61) (m2 := mX5_villageNamed) (As := [.long (M2.2 13 4)]) (st := []) dX6_readVillage_61 sC_4 (by decide) rfl rfl gm_X5_villageNamed ml_X6_118 rfl (Nat.le_of_ble_eq_true rfl) (JC.mono h ?_)
      clear h
      rintro M3 _ ⟨r1, rfl, h⟩
      refine jw_st (st' := [.int r1]) rfl ?_
      refine jw_iconst (pc := 64) (v := (-1)) dX6_readVillage_64 rfl ?_
      refine jw_icmp_eq (pc := 65) (tgt := 77) dX6_readVillage_65 (by decide) (fun c => ?_) (fun c => ?_)
      · replace h := h.1 c
        refine jw_aload_n (pc := 77) (j := 1) dX6_readVillage_77 rfl rfl ?_
        refine jw_getR (pc := 78) (r := 4) dX6_readVillage_78 sC_3 fl_X6_12 (by decide) rfl rfl ?_
        refine jw_getR (pc := 81) (r := 8) dX6_readVillage_81 sC_4 fl_X6_122 (by decide) rfl rfl ?_
        refine jw_iload_n (pc := 84) (j := 0) dX6_readVillage_84 rfl rfl ?_
        refine jw_aload_n (pc := 85) (j := 1) dX6_readVillage_85 rfl rfl ?_
        refine jw_getR (pc := 86) (r := 13) dX6_readVillage_86 sC_3 fl_X6_21 (by decide) rfl rfl ?_
        refine jw_getL (pc := 89) dX6_readVillage_89 sC_13 fl_X6_114 (by decide) rfl ?_
        obtain ⟨j1, hj1, ej1, h⟩ := h
        refine jw_last (pc := 92) (j := j1) dX6_readVillage_92 sC_8 hj1 ej1 (by decide) ?_
        replace h := h _ rfl
        generalize jrL M3 8 (vp_updL (M3.2 8) j1 (M3.2 13 4)) = M4 at h ⊢
        refine jw_aload_n (pc := 93) (j := 1) dX6_readVillage_93 rfl rfl ?_
        refine jw_getR (pc := 94) (r := 13) dX6_readVillage_94 sC_3 fl_X6_21 (by decide) rfl rfl ?_
        refine jw_callV (pc := 97) (m2 := mX7_step) (As := []) (st := []) dX6_readVillage_97 sC_13 (by decide) rfl rfl gm_X7_step ml_X6_92 rfl (Nat.le_of_ble_eq_true rfl) (JC.mono h ?_)
        clear h
        rintro M5 _ ⟨rfl, h⟩
        refine jw_st (st' := []) rfl ?_
        refine jw_aload_n (pc := 100) (j := 1) dX6_readVillage_100 rfl rfl ?_
        refine jw_getR (pc := 101) (r := 13) dX6_readVillage_101 sC_3 fl_X6_21 (by decide) rfl rfl ?_
        refine jw_callV (pc := 104) (m2 := mX7_isSide) (As := []) (st := []) dX6_readVillage_104 sC_13 (by decide) rfl rfl gm_X7_isSide ml_X6_126 rfl (Nat.le_of_ble_eq_true rfl) (JC.mono h ?_)
        clear h
        rintro M6 _ ⟨b2, rfl, h⟩
        refine jw_st (st' := [.int (jb b2)]) rfl ?_
        refine jw_if_ne (pc := 107) (tgt := 119) dX6_readVillage_107 (by decide) (fun c => ?_) (fun c => ?_)
        · replace h := h.1 (jb_ne c)
          refine jw_aload_n (pc := 119) (j := 1) dX6_readVillage_119 rfl rfl ?_
          refine jw_getR (pc := 120) (r := 4) dX6_readVillage_120 sC_3 fl_X6_12 (by decide) rfl rfl ?_
          refine jw_getR (pc := 123) (r := 9) dX6_readVillage_123 sC_4 fl_X6_129 (by decide) rfl rfl ?_
          refine jw_iload_n (pc := 126) (j := 0) dX6_readVillage_126 rfl rfl ?_
          refine jw_aload_n (pc := 127) (j := 1) dX6_readVillage_127 rfl rfl ?_
          refine jw_getR (pc := 128) (r := 13) dX6_readVillage_128 sC_3 fl_X6_21 (by decide) rfl rfl ?_
          refine jw_getI (pc := 131) dX6_readVillage_131 sC_13 fl_X6_66 (by decide) rfl ?_
          refine jw_bipush (pc := 134) (v := 18) dX6_readVillage_134 rfl ?_
          refine jw_isub (pc := 136) dX6_readVillage_136 ?_
          refine jw_iast (pc := 137) (j := j1) dX6_readVillage_137 sC_9 hj1 ej1 (by decide) ?_
          replace h := h _ rfl
          generalize jrI M6 9 (upd (M6.1 9) j1 ((M6.1 13 3) - (18 : Int32))) = M7 at h ⊢
          refine jw_aload_n (pc := 138) (j := 1) dX6_readVillage_138 rfl rfl ?_
          refine jw_getR (pc := 139) (r := 4) dX6_readVillage_139 sC_3 fl_X6_12 (by decide) rfl rfl ?_
          refine jw_dup (pc := 142) dX6_readVillage_142 rfl ?_
          refine jw_getI (pc := 143) dX6_readVillage_143 sC_4 fl_X6_108 (by decide) rfl ?_
          refine jw_iconst (pc := 146) (v := 1) dX6_readVillage_146 rfl ?_
          refine jw_iadd (pc := 147) dX6_readVillage_147 ?_
          refine jw_putI (pc := 148) dX6_readVillage_148 sC_4 fl_X6_108 fw_5_3 (by decide) rfl ?_
          replace h := h _ rfl
          generalize jrI M7 4 (upd (M7.1 4) 3 ((M7.1 4 3) + (1 : Int32))) = M8 at h ⊢
          refine jw_aload_n (pc := 151) (j := 1) dX6_readVillage_151 rfl rfl ?_
          refine jw_getR (pc := 152) (r := 13) dX6_readVillage_152 sC_3 fl_X6_21 (by decide) rfl rfl ?_
          refine jw_callV (pc := 155) (m2 := mX7_step) (As := []) (st := []) dX6_readVillage_155 sC_13 (by decide) rfl rfl gm_X7_step ml_X6_92 rfl (Nat.le_of_ble_eq_true rfl) (JC.mono h ?_)
          clear h
          rintro M9 _ ⟨rfl, h⟩
          refine jw_st (st' := []) rfl ?_
          refine jw_aload_n (pc := 158) (j := 1) dX6_readVillage_158 rfl rfl ?_
          refine jw_getR (pc := 159) (r := 13) dX6_readVillage_159 sC_3 fl_X6_21 (by decide) rfl rfl ?_
          refine jw_getI (pc := 162) dX6_readVillage_162 sC_13 fl_X6_66 (by decide) rfl ?_
          refine jw_iconst (pc := 165) (v := 5) dX6_readVillage_165 rfl ?_
          refine jw_icmp_eq (pc := 166) (tgt := 177) dX6_readVillage_166 (by decide) (fun c => ?_) (fun c => ?_)
          · replace h := h.1 c
            refine jw_aload_n (pc := 177) (j := 1) dX6_readVillage_177 rfl rfl ?_
            refine jw_getR (pc := 178) (r := 4) dX6_readVillage_178 sC_3 fl_X6_12 (by decide) rfl rfl ?_
            refine jw_dup (pc := 181) dX6_readVillage_181 rfl ?_
            refine jw_getI (pc := 182) dX6_readVillage_182 sC_4 fl_X6_132 (by decide) rfl ?_
            refine jw_iconst (pc := 185) (v := 1) dX6_readVillage_185 rfl ?_
            refine jw_iload_n (pc := 186) (j := 0) dX6_readVillage_186 rfl rfl ?_
            refine jw_ishl (pc := 187) dX6_readVillage_187 ?_
            refine jw_ior (pc := 188) dX6_readVillage_188 ?_
            refine jw_putI (pc := 189) dX6_readVillage_189 sC_4 fl_X6_132 fw_5_4 (by decide) rfl ?_
            replace h := h _ rfl
            generalize jrI M9 4 (upd (M9.1 4) 4 ((M9.1 4 4) ||| ((1 : Int32) <<< ((M.1 4 3) &&& 31)))) = M10 at h ⊢
            refine jw_aload_n (pc := 192) (j := 1) dX6_readVillage_192 rfl rfl ?_
            refine jw_getR (pc := 193) (r := 13) dX6_readVillage_193 sC_3 fl_X6_21 (by decide) rfl rfl ?_
            refine jw_callV (pc := 196) (m2 := mX7_step) (As := []) (st := []) dX6_readVillage_196 sC_13 (by decide) rfl rfl gm_X7_step ml_X6_92 rfl (Nat.le_of_ble_eq_true rfl) (JC.mono h ?_)
            clear h
            rintro M11 _ ⟨rfl, h⟩
            refine jw_st (st' := []) rfl ?_
            refine jw_aload_n (pc := 199) (j := 1) dX6_readVillage_199 rfl rfl ?_
            refine jw_aload_n (pc := 200) (j := 1) dX6_readVillage_200 rfl rfl ?_
            refine jw_getR (pc := 201) (r := 4) dX6_readVillage_201 sC_3 fl_X6_12 (by decide) rfl rfl ?_
            refine jw_getR (pc := 204) (r := 10) dX6_readVillage_204 sC_4 fl_X6_135 (by decide) rfl rfl ?_
            refine jw_iload_n (pc := 207) (j := 0) dX6_readVillage_207 rfl rfl ?_
            refine jw_bipush (pc := 208) (v := 9) dX6_readVillage_208 rfl ?_
            refine jw_imul (pc := 210) dX6_readVillage_210 ?_
            refine jw_aload_n (pc := 211) (j := 1) dX6_readVillage_211 rfl rfl ?_
            refine jw_getR (pc := 212) (r := 4) dX6_readVillage_212 sC_3 fl_X6_12 (by decide) rfl rfl ?_
            refine jw_iload_n (pc := 215) (j := 0) dX6_readVillage_215 rfl rfl ?_
            refine jw_callV (pc := 216) (m2 := mX5_stripsOf) (As := [.int (M.1 4 3)]) (st := [.int ((M.1 4 3) * (9 : Int32)), .ref (x.2.2.2 10), .ref (x.2.2.2 3)]) dX6_readVillage_216 sC_4 (by decide) rfl rfl gm_X5_stripsOf ml_X6_138 rfl (Nat.le_of_ble_eq_true rfl) (JC.mono h ?_)
            clear h
            rintro M12 _ ⟨r2, rfl, h⟩
            refine jw_st (st' := [.int r2, .int ((M.1 4 3) * (9 : Int32)), .ref (x.2.2.2 10), .ref (x.2.2.2 3)]) rfl ?_
            refine jw_iconst (pc := 219) (v := 0) dX6_readVillage_219 rfl ?_
            refine jw_callV (pc := 220) (m2 := mX6_readRow) (As := [.ref (x.2.2.2 10), .int ((M.1 4 3) * (9 : Int32)), .int r2, .int (0 : Int32)]) (st := []) dX6_readVillage_220 sC_3 (by decide) rfl rfl gm_X6_readRow ml_X6_98 rfl (Nat.le_of_ble_eq_true rfl) (JC.mono h ?_)
            clear h
            rintro M13 _ ⟨b3, rfl, h⟩
            refine jw_st (st' := [.int (jb b3)]) rfl ?_
            exact jw_zret (pc := 223) dX6_readVillage_223 rfl (jb_01 _) ⟨_, rfl, h⟩
          · replace h := h.2 c
            refine jw_aload_n (pc := 169) (j := 1) dX6_readVillage_169 rfl rfl ?_
            refine jw_getR (pc := 170) (r := 13) dX6_readVillage_170 sC_3 fl_X6_21 (by decide) rfl rfl ?_
            refine jw_callV (pc := 173) (m2 := mX7_takeSemicolon) (As := []) (st := []) dX6_readVillage_173 sC_13 (by decide) rfl rfl gm_X7_takeSemicolon ml_X6_60 rfl (Nat.le_of_ble_eq_true rfl) (JC.mono h ?_)
            clear h
            rintro M14 _ ⟨b4, rfl, h⟩
            refine jw_st (st' := [.int (jb b4)]) rfl ?_
            exact jw_zret (pc := 176) dX6_readVillage_176 rfl (jb_01 _) ⟨_, rfl, h⟩
        · replace h := h.2 ((jb_0 _).mp c)
          refine jw_aload_n (pc := 110) (j := 1) dX6_readVillage_110 rfl rfl ?_
          refine jw_getR (pc := 111) (r := 13) dX6_readVillage_111 sC_3 fl_X6_21 (by decide) rfl rfl ?_
          refine jw_iconst (pc := 114) (v := 2) dX6_readVillage_114 rfl ?_
          refine jw_callV (pc := 115) (m2 := mX7_refuse) (As := [.int (2 : Int32)]) (st := []) dX6_readVillage_115 sC_13 (by decide) rfl rfl gm_X7_refuse ml_X6_86 rfl (Nat.le_of_ble_eq_true rfl) (JC.mono h ?_)
          clear h
          rintro M15 _ ⟨b5, rfl, h⟩
          refine jw_st (st' := [.int (jb b5)]) rfl ?_
          exact jw_zret (pc := 118) dX6_readVillage_118 rfl (jb_01 _) ⟨_, rfl, h⟩
      · replace h := h.2 c
        refine jw_aload_n (pc := 68) (j := 1) dX6_readVillage_68 rfl rfl ?_
        refine jw_getR (pc := 69) (r := 13) dX6_readVillage_69 sC_3 fl_X6_21 (by decide) rfl rfl ?_
        refine jw_iconst (pc := 72) (v := 3) dX6_readVillage_72 rfl ?_
        refine jw_callV (pc := 73) (m2 := mX7_refuse) (As := [.int (3 : Int32)]) (st := []) dX6_readVillage_73 sC_13 (by decide) rfl rfl gm_X7_refuse ml_X6_86 rfl (Nat.le_of_ble_eq_true rfl) (JC.mono h ?_)
        clear h
        rintro M16 _ ⟨b6, rfl, h⟩
        refine jw_st (st' := [.int (jb b6)]) rfl ?_
        exact jw_zret (pc := 76) dX6_readVillage_76 rfl (jb_01 _) ⟨_, rfl, h⟩
    · replace h := h.2 ((jb_0 _).mp c)
      refine jw_aload_n (pc := 41) (j := 1) dX6_readVillage_41 rfl rfl ?_
      refine jw_getR (pc := 42) (r := 13) dX6_readVillage_42 sC_3 fl_X6_21 (by decide) rfl rfl ?_
      refine jw_iconst (pc := 45) (v := 2) dX6_readVillage_45 rfl ?_
      refine jw_callV (pc := 46) (m2 := mX7_refuse) (As := [.int (2 : Int32)]) (st := []) dX6_readVillage_46 sC_13 (by decide) rfl rfl gm_X7_refuse ml_X6_86 rfl (Nat.le_of_ble_eq_true rfl) (JC.mono h ?_)
      clear h
      rintro M17 _ ⟨b7, rfl, h⟩
      refine jw_st (st' := [.int (jb b7)]) rfl ?_
      exact jw_zret (pc := 49) dX6_readVillage_49 rfl (jb_01 _) ⟨_, rfl, h⟩
  · replace h := h.2 c
    refine jw_aload_n (pc := 14) (j := 1) dX6_readVillage_14 rfl rfl ?_
    refine jw_getR (pc := 15) (r := 13) dX6_readVillage_15 sC_3 fl_X6_21 (by decide) rfl rfl ?_
    refine jw_bipush (pc := 18) (v := 6) dX6_readVillage_18 rfl ?_
    refine jw_callV (pc := 20) (m2 := mX7_refuse) (As := [.int (6 : Int32)]) (st := []) dX6_readVillage_20 sC_13 (by decide) rfl rfl gm_X7_refuse ml_X6_86 rfl (Nat.le_of_ble_eq_true rfl) (JC.mono h ?_)
    clear h
    rintro M18 _ ⟨b8, rfl, h⟩
    refine jw_st (st' := [.int (jb b8)]) rfl ?_
    exact jw_zret (pc := 23) dX6_readVillage_23 rfl (jb_01 _) ⟨_, rfl, h⟩
