set_option maxRecDepth 20000 in
theorem b_X11_status {x : jX} {d : Nat} {M : jM} {P : jM → Int32 → Prop}  
    (h : P M (M.1 0 16)) :
    JC x jtbC mX11_status d [.ref (x.2.2.2 0)] M (jI P) := by
  refine JC.of rfl (Nat.le_of_ble_eq_true rfl) ?_
  refine jw_ls (ls' := [(0, .ref (x.2.2.2 0))]) rfl ?_
  refine jw_aload_n (pc := 0) (j := 0) dX11_status_0 rfl rfl ?_
  refine jw_getI (pc := 1) dX11_status_1 sC_0 fl_X11_83 (by decide) rfl ?_
  exact jw_iret (pc := 4) dX11_status_4 rfl ⟨_, rfl, h⟩
set_option maxRecDepth 20000 in
theorem b_X11_top {x : jX} {d : Nat} {M : jM} {P : jM → Int64 → Prop}  
    (h : P M (M.2 75 0)) :
    JC x jtbC mX11_top d [.ref (x.2.2.2 0)] M (jL P) := by
  refine JC.of rfl (Nat.le_of_ble_eq_true rfl) ?_
  refine jw_ls (ls' := [(0, .ref (x.2.2.2 0))]) rfl ?_
  refine jw_aload_n (pc := 0) (j := 0) dX11_top_0 rfl rfl ?_
  refine jw_getR (pc := 1) (r := 75) dX11_top_1 sC_0 fl_X11_75 (by decide) rfl rfl ?_
  refine jw_iconst (pc := 4) (v := 0) dX11_top_4 rfl ?_
  refine jw_lald (pc := 5) (j := 0) dX11_top_5 sC_75 (by decide) rfl (by decide) ?_
  exact jw_lret (pc := 6) dX11_top_6 rfl ⟨_, rfl, h⟩
set_option maxRecDepth 20000 in
theorem b_X11_bottom {x : jX} {d : Nat} {M : jM} {P : jM → Int64 → Prop}  
    (h : P M (M.2 75 1)) :
    JC x jtbC mX11_bottom d [.ref (x.2.2.2 0)] M (jL P) := by
  refine JC.of rfl (Nat.le_of_ble_eq_true rfl) ?_
  refine jw_ls (ls' := [(0, .ref (x.2.2.2 0))]) rfl ?_
  refine jw_aload_n (pc := 0) (j := 0) dX11_bottom_0 rfl rfl ?_
  refine jw_getR (pc := 1) (r := 75) dX11_bottom_1 sC_0 fl_X11_75 (by decide) rfl rfl ?_
  refine jw_iconst (pc := 4) (v := 1) dX11_bottom_4 rfl ?_
  refine jw_lald (pc := 5) (j := 1) dX11_bottom_5 sC_75 (by decide) rfl (by decide) ?_
  exact jw_lret (pc := 6) dX11_bottom_6 rfl ⟨_, rfl, h⟩
set_option maxRecDepth 20000 in
theorem b_X11_tray {x : jX} {d : Nat} {M : jM} {P : jM → Bool → Prop} {a1 : Int32} {a2 : Int32} {a3 : Int32} 
    (h : JC x jtbC mX11_isTray d [.int a1] M (jZ fun M1 b1 => (b1 = false → JC x jtbC mX11_isDone d [.ref (x.2.2.2 0), .int (1 : Int32)] M1 (jZ fun M2 b2 => P M2 b2)) ∧ (b1 = true → (a2 < 0 → JC x jtbC mX11_isDone d [.ref (x.2.2.2 0), .int (1 : Int32)] M1 (jZ fun M3 b3 => P M3 b3)) ∧ (¬ a2 < 0 → (a2 ≤ (3 : Int32) → (a3 ≤ (60 : Int32) → (0 ≤ a3 → ∃ j1, j1 < 4 ∧ a1 = nI j1 ∧ (JC x jtbC mX9_lay d [.ref (x.2.2.2 (77 + 2 * j1)), .int a2, .int a3] M1 (jV fun M4 => JC x jtbC mX11_isDone d [.ref (x.2.2.2 0), .int (0 : Int32)] M4 (jZ fun M5 b4 => P M5 b4)))) ∧ (¬ 0 ≤ a3 → JC x jtbC mX11_isDone d [.ref (x.2.2.2 0), .int (6 : Int32)] M1 (jZ fun M6 b5 => P M6 b5))) ∧ (¬ a3 ≤ (60 : Int32) → JC x jtbC mX11_isDone d [.ref (x.2.2.2 0), .int (5 : Int32)] M1 (jZ fun M7 b6 => P M7 b6))) ∧ (¬ a2 ≤ (3 : Int32) → JC x jtbC mX11_isDone d [.ref (x.2.2.2 0), .int (1 : Int32)] M1 (jZ fun M8 b7 => P M8 b7)))))) :
    JC x jtbC mX11_tray (d + 1) [.ref (x.2.2.2 0), .int a1, .int a2, .int a3] M (jZ P) := by
  refine JC.of rfl (Nat.le_of_ble_eq_true rfl) ?_
  refine jw_ls (ls' := [(0, .ref (x.2.2.2 0)), (1, .int a1), (2, .int a2), (3, .int a3)]) rfl ?_
  refine jw_iload_n (pc := 0) (j := 1) dX11_tray_0 rfl rfl ?_
  refine jw_callS (pc := 1) (m2 := mX11_isTray) (As := [.int a1]) (st := []) dX11_tray_1 gm_X11_isTray ml_X11_87 rfl (Nat.le_of_ble_eq_true rfl) (JC.mono h ?_)
  clear h
  rintro M1 _ ⟨b1, rfl, h⟩
  refine jw_st (st' := [.int (jb b1)]) rfl ?_
  refine jw_if_eq (pc := 4) (tgt := 16) dX11_tray_4 (by decide) (fun c => ?_) (fun c => ?_)
  · replace h := h.1 ((jb_0 _).mp c)
    refine jw_aload_n (pc := 16) (j := 0) dX11_tray_16 rfl rfl ?_
    refine jw_iconst (pc := 17) (v := 1) dX11_tray_17 rfl ?_
    refine jw_callV (pc := 18) (m2 := mX11_isDone) (As := [.int (1 : Int32)]) (st := []) dX11_tray_18 sC_0 (by decide) rfl rfl gm_X11_isDone ml_X11_91 rfl (Nat.le_of_ble_eq_true rfl) (JC.mono h ?_)
    clear h
    rintro M2 _ ⟨b2, rfl, h⟩
    refine jw_st (st' := [.int (jb b2)]) rfl ?_
    exact jw_zret (pc := 21) dX11_tray_21 rfl (jb_01 _) ⟨_, rfl, h⟩
  · replace h := h.2 (jb_ne c)
    refine jw_iload_n (pc := 7) (j := 2) dX11_tray_7 rfl rfl ?_
    refine jw_if_lt (pc := 8) (tgt := 16) dX11_tray_8 (by decide) (fun c => ?_) (fun c => ?_)
    · replace h := h.1 c
      refine jw_aload_n (pc := 16) (j := 0) dX11_tray_16 rfl rfl ?_
      refine jw_iconst (pc := 17) (v := 1) dX11_tray_17 rfl ?_
      refine jw_callV (pc := 18) (m2 := mX11_isDone) (As := [.int (1 : Int32)]) (st := []) dX11_tray_18 sC_0 (by decide) rfl rfl gm_X11_isDone ml_X11_91 rfl (Nat.le_of_ble_eq_true rfl) (JC.mono h ?_)
      clear h
      rintro M3 _ ⟨b3, rfl, h⟩
      refine jw_st (st' := [.int (jb b3)]) rfl ?_
      exact jw_zret (pc := 21) dX11_tray_21 rfl (jb_01 _) ⟨_, rfl, h⟩
    · replace h := h.2 c
      refine jw_iload_n (pc := 11) (j := 2) dX11_tray_11 rfl rfl ?_
      refine jw_iconst (pc := 12) (v := 3) dX11_tray_12 rfl ?_
      refine jw_icmp_le (pc := 13) (tgt := 22) dX11_tray_13 (by decide) (fun c => ?_) (fun c => ?_)
      · replace h := h.1 c
        refine jw_iload_n (pc := 22) (j := 3) dX11_tray_22 rfl rfl ?_
        refine jw_bipush (pc := 23) (v := 60) dX11_tray_23 rfl ?_
        refine jw_icmp_le (pc := 25) (tgt := 34) dX11_tray_25 (by decide) (fun c => ?_) (fun c => ?_)
        · replace h := h.1 c
          refine jw_iload_n (pc := 34) (j := 3) dX11_tray_34 rfl rfl ?_
          refine jw_if_ge (pc := 35) (tgt := 45) dX11_tray_35 (by decide) (fun c => ?_) (fun c => ?_)
          · replace h := h.1 c
            refine jw_aload_n (pc := 45) (j := 0) dX11_tray_45 rfl rfl ?_
            refine jw_getR (pc := 46) (r := 1) dX11_tray_46 sC_0 fl_X11_11 (by decide) rfl rfl ?_
            refine jw_iload_n (pc := 49) (j := 1) dX11_tray_49 rfl rfl ?_
            obtain ⟨j1, hj1, ej1, h⟩ := h
            refine jw_aald24 (pc := 50) (j := j1) (r := 77 + 2 * j1) dX11_tray_50 sC_1 hj1 ej1 (by decide) (by simp [jel]) ?_
            refine jw_iload_n (pc := 51) (j := 2) dX11_tray_51 rfl rfl ?_
            refine jw_iload_n (pc := 52) (j := 3) dX11_tray_52 rfl rfl ?_
            refine jw_callV (pc := 53) (m2 := mX9_lay) (As := [.int a2, .int a3]) (st := []) dX11_tray_53 (at9 hj1).1 (by decide) rfl rfl gm_X9_lay ml_X11_94 rfl (Nat.le_of_ble_eq_true rfl) (JC.mono h ?_)
            clear h
            rintro M4 _ ⟨rfl, h⟩
            refine jw_st (st' := []) rfl ?_
            refine jw_aload_n (pc := 56) (j := 0) dX11_tray_56 rfl rfl ?_
            refine jw_iconst (pc := 57) (v := 0) dX11_tray_57 rfl ?_
            refine jw_callV (pc := 58) (m2 := mX11_isDone) (As := [.int (0 : Int32)]) (st := []) dX11_tray_58 sC_0 (by decide) rfl rfl gm_X11_isDone ml_X11_91 rfl (Nat.le_of_ble_eq_true rfl) (JC.mono h ?_)
            clear h
            rintro M5 _ ⟨b4, rfl, h⟩
            refine jw_st (st' := [.int (jb b4)]) rfl ?_
            exact jw_zret (pc := 61) dX11_tray_61 rfl (jb_01 _) ⟨_, rfl, h⟩
          · replace h := h.2 c
            refine jw_aload_n (pc := 38) (j := 0) dX11_tray_38 rfl rfl ?_
            refine jw_bipush (pc := 39) (v := 6) dX11_tray_39 rfl ?_
            refine jw_callV (pc := 41) (m2 := mX11_isDone) (As := [.int (6 : Int32)]) (st := []) dX11_tray_41 sC_0 (by decide) rfl rfl gm_X11_isDone ml_X11_91 rfl (Nat.le_of_ble_eq_true rfl) (JC.mono h ?_)
            clear h
            rintro M6 _ ⟨b5, rfl, h⟩
            refine jw_st (st' := [.int (jb b5)]) rfl ?_
            exact jw_zret (pc := 44) dX11_tray_44 rfl (jb_01 _) ⟨_, rfl, h⟩
        · replace h := h.2 c
          refine jw_aload_n (pc := 28) (j := 0) dX11_tray_28 rfl rfl ?_
          refine jw_iconst (pc := 29) (v := 5) dX11_tray_29 rfl ?_
          refine jw_callV (pc := 30) (m2 := mX11_isDone) (As := [.int (5 : Int32)]) (st := []) dX11_tray_30 sC_0 (by decide) rfl rfl gm_X11_isDone ml_X11_91 rfl (Nat.le_of_ble_eq_true rfl) (JC.mono h ?_)
          clear h
          rintro M7 _ ⟨b6, rfl, h⟩
          refine jw_st (st' := [.int (jb b6)]) rfl ?_
          exact jw_zret (pc := 33) dX11_tray_33 rfl (jb_01 _) ⟨_, rfl, h⟩
      · replace h := h.2 c
        refine jw_aload_n (pc := 16) (j := 0) dX11_tray_16 rfl rfl ?_
        refine jw_iconst (pc := 17) (v := 1) dX11_tray_17 rfl ?_
        refine jw_callV (pc := 18) (m2 := mX11_isDone) (As := [.int (1 : Int32)]) (st := []) dX11_tray_18 sC_0 (by decide) rfl rfl gm_X11_isDone ml_X11_91 rfl (Nat.le_of_ble_eq_true rfl) (JC.mono h ?_)
        clear h
        rintro M8 _ ⟨b7, rfl, h⟩
        refine jw_st (st' := [.int (jb b7)]) rfl ?_
        exact jw_zret (pc := 21) dX11_tray_21 rfl (jb_01 _) ⟨_, rfl, h⟩
set_option maxRecDepth 20000 in
theorem b_X11_write {x : jX} {d : Nat} {M : jM} {P : jM → Bool → Prop} {a1 : Int32} {a2 : Int32} {a3 : Int64} 
    (h : JC x jtbC mX11_trayPlaceStatus d [.ref (x.2.2.2 0), .int a1, .int a2] M (jI fun M1 r1 => (¬ r1 = 0 → JC x jtbC mX11_isDone d [.ref (x.2.2.2 0), .int r1] M1 (jZ fun M2 b1 => P M2 b1)) ∧ (r1 = 0 → ∃ j1, j1 < 4 ∧ a1 = nI j1 ∧ (JC x jtbC mX9_put d [.ref (x.2.2.2 (77 + 2 * j1)), .int a2, .long a3] M1 (jV fun M3 => JC x jtbC mX11_isDone d [.ref (x.2.2.2 0), .int r1] M3 (jZ fun M4 b2 => P M4 b2)))))) :
    JC x jtbC mX11_write (d + 1) [.ref (x.2.2.2 0), .int a1, .int a2, .long a3] M (jZ P) := by
  refine JC.of rfl (Nat.le_of_ble_eq_true rfl) ?_
  refine jw_ls (ls' := [(0, .ref (x.2.2.2 0)), (1, .int a1), (2, .int a2), (3, .long a3)]) rfl ?_
  refine jw_aload_n (pc := 0) (j := 0) dX11_write_0 rfl rfl ?_
  refine jw_iload_n (pc := 1) (j := 1) dX11_write_1 rfl rfl ?_
  refine jw_iload_n (pc := 2) (j := 2) dX11_write_2 rfl rfl ?_
  refine jw_callV (pc := 3) (m2 := mX11_trayPlaceStatus) (As := [.int a1, .int a2]) (st := []) dX11_write_3 sC_0 (by decide) rfl rfl gm_X11_trayPlaceStatus ml_X11_98 rfl (Nat.le_of_ble_eq_true rfl) (JC.mono h ?_)
  clear h
  rintro M1 _ ⟨r1, rfl, h⟩
  refine jw_st (st' := [.int r1]) rfl ?_
  refine jw_istore (pc := 6) (ls' := [(5, .int r1), (0, .ref (x.2.2.2 0)), (1, .int a1), (2, .int a2), (3, .long a3)]) dX11_write_6 (by decide) rfl ?_
  refine jw_iload (pc := 8) (j := 0) dX11_write_8 rfl ?_
  refine jw_if_ne (pc := 10) (tgt := 24) dX11_write_10 (by decide) (fun c => ?_) (fun c => ?_)
  · replace h := h.1 c
    refine jw_aload_n (pc := 24) (j := 1) dX11_write_24 rfl rfl ?_
    refine jw_iload (pc := 25) (j := 0) dX11_write_25 rfl ?_
    refine jw_callV (pc := 27) (m2 := mX11_isDone) (As := [.int r1]) (st := []) dX11_write_27 sC_0 (by decide) rfl rfl gm_X11_isDone ml_X11_91 rfl (Nat.le_of_ble_eq_true rfl) (JC.mono h ?_)
    clear h
    rintro M2 _ ⟨b1, rfl, h⟩
    refine jw_st (st' := [.int (jb b1)]) rfl ?_
    exact jw_zret (pc := 30) dX11_write_30 rfl (jb_01 _) ⟨_, rfl, h⟩
  · replace h := h.2 c
    refine jw_aload_n (pc := 13) (j := 1) dX11_write_13 rfl rfl ?_
    refine jw_getR (pc := 14) (r := 1) dX11_write_14 sC_0 fl_X11_11 (by decide) rfl rfl ?_
    refine jw_iload_n (pc := 17) (j := 2) dX11_write_17 rfl rfl ?_
    obtain ⟨j1, hj1, ej1, h⟩ := h
    refine jw_aald24 (pc := 18) (j := j1) (r := 77 + 2 * j1) dX11_write_18 sC_1 hj1 ej1 (by decide) (by simp [jel]) ?_
    refine jw_iload_n (pc := 19) (j := 3) dX11_write_19 rfl rfl ?_
    refine jw_lload_n (pc := 20) (j := 4) dX11_write_20 rfl rfl ?_
    refine jw_callV (pc := 21) (m2 := mX9_put) (As := [.int a2, .long a3]) (st := []) dX11_write_21 (at9 hj1).1 (by decide) rfl rfl gm_X9_put ml_X11_102 rfl (Nat.le_of_ble_eq_true rfl) (JC.mono h ?_)
    clear h
    rintro M3 _ ⟨rfl, h⟩
    refine jw_st (st' := []) rfl ?_
    refine jw_aload_n (pc := 24) (j := 1) dX11_write_24 rfl rfl ?_
    refine jw_iload (pc := 25) (j := 0) dX11_write_25 rfl ?_
    refine jw_callV (pc := 27) (m2 := mX11_isDone) (As := [.int r1]) (st := []) dX11_write_27 sC_0 (by decide) rfl rfl gm_X11_isDone ml_X11_91 rfl (Nat.le_of_ble_eq_true rfl) (JC.mono h ?_)
    clear h
    rintro M4 _ ⟨b2, rfl, h⟩
    refine jw_st (st' := [.int (jb b2)]) rfl ?_
    exact jw_zret (pc := 30) dX11_write_30 rfl (jb_01 _) ⟨_, rfl, h⟩
set_option maxRecDepth 20000 in
theorem b_X11_read {x : jX} {d : Nat} {M : jM} {P : jM → Int64 → Prop} {a1 : Int32} {a2 : Int32} 
    (h : JC x jtbC mX11_trayPlaceStatus d [.ref (x.2.2.2 0), .int a1, .int a2] M (jI fun M1 r1 => (r1 = 0 → ∀ M2, M2 = jrI M1 0 (upd (M1.1 0) 16 (0 : Int32)) → ∃ j1, j1 < 4 ∧ a1 = nI j1 ∧ (∃ j2, j2 < 60 ∧ a2 = nI j2 ∧ (P M2 (M2.2 (77 + 2 * j1 + 1) j2)))) ∧ (¬ r1 = 0 → JC x jtbC mX11_refused d [.ref (x.2.2.2 0), .int r1] M1 (jI fun M3 r2 => P M3 r2.toInt64)))) :
    JC x jtbC mX11_read (d + 1) [.ref (x.2.2.2 0), .int a1, .int a2] M (jL P) := by
  refine JC.of rfl (Nat.le_of_ble_eq_true rfl) ?_
  refine jw_ls (ls' := [(0, .ref (x.2.2.2 0)), (1, .int a1), (2, .int a2)]) rfl ?_
  refine jw_aload_n (pc := 0) (j := 0) dX11_read_0 rfl rfl ?_
  refine jw_iload_n (pc := 1) (j := 1) dX11_read_1 rfl rfl ?_
  refine jw_iload_n (pc := 2) (j := 2) dX11_read_2 rfl rfl ?_
  refine jw_callV (pc := 3) (m2 := mX11_trayPlaceStatus) (As := [.int a1, .int a2]) (st := []) dX11_read_3 sC_0 (by decide) rfl rfl gm_X11_trayPlaceStatus ml_X11_98 rfl (Nat.le_of_ble_eq_true rfl) (JC.mono h ?_)
  clear h
  rintro M1 _ ⟨r1, rfl, h⟩
  refine jw_st (st' := [.int r1]) rfl ?_
  refine jw_istore_n (pc := 6) (ls' := [(3, .int r1), (0, .ref (x.2.2.2 0)), (1, .int a1), (2, .int a2)]) dX11_read_6 rfl (by decide) rfl ?_
  refine jw_iload_n (pc := 7) (j := 0) dX11_read_7 rfl rfl ?_
  refine jw_if_eq (pc := 8) (tgt := 18) dX11_read_8 (by decide) (fun c => ?_) (fun c => ?_)
  · replace h := h.1 c
    refine jw_aload_n (pc := 18) (j := 1) dX11_read_18 rfl rfl ?_
    refine jw_iconst (pc := 19) (v := 0) dX11_read_19 rfl ?_
    refine jw_putI (pc := 20) dX11_read_20 sC_0 fl_X11_83 fw_11_16 (by decide) rfl ?_
    replace h := h _ rfl
    generalize jrI M1 0 (upd (M1.1 0) 16 (0 : Int32)) = M2 at h ⊢
    refine jw_aload_n (pc := 23) (j := 1) dX11_read_23 rfl rfl ?_
    refine jw_getR (pc := 24) (r := 1) dX11_read_24 sC_0 fl_X11_11 (by decide) rfl rfl ?_
    refine jw_iload_n (pc := 27) (j := 2) dX11_read_27 rfl rfl ?_
    obtain ⟨j1, hj1, ej1, h⟩ := h
    refine jw_aald24 (pc := 28) (j := j1) (r := 77 + 2 * j1) dX11_read_28 sC_1 hj1 ej1 (by decide) (by simp [jel]) ?_
    refine jw_getR (pc := 29) (r := 77 + 2 * j1 + 1) dX11_read_29 (at9 hj1).1 fl_X11_110 (by decide) rfl rfl ?_
    refine jw_iload_n (pc := 32) (j := 3) dX11_read_32 rfl rfl ?_
    obtain ⟨j2, hj2, ej2, h⟩ := h
    refine jw_lald (pc := 33) (j := j2) dX11_read_33 (at9 hj1).2 hj2 ej2 (by decide) ?_
    exact jw_lret (pc := 34) dX11_read_34 rfl ⟨_, rfl, h⟩
  · replace h := h.2 c
    refine jw_aload_n (pc := 11) (j := 1) dX11_read_11 rfl rfl ?_
    refine jw_iload_n (pc := 12) (j := 0) dX11_read_12 rfl rfl ?_
    refine jw_callV (pc := 13) (m2 := mX11_refused) (As := [.int r1]) (st := []) dX11_read_13 sC_0 (by decide) rfl rfl gm_X11_refused ml_X11_106 rfl (Nat.le_of_ble_eq_true rfl) (JC.mono h ?_)
    clear h
    rintro M3 _ ⟨r2, rfl, h⟩
    refine jw_st (st' := [.int r2]) rfl ?_
    refine jw_i2l (pc := 16) dX11_read_16 ?_
    exact jw_lret (pc := 17) dX11_read_17 rfl ⟨_, rfl, h⟩
set_option maxRecDepth 20000 in
theorem b_X11_pour {x : jX} {d : Nat} {M : jM} {P : jM → Bool → Prop} {a1 : Int32} {a2 : Int32} {a3 : Int32} {a4 : Int32} {a5 : Int32} 
    (h : JC x jtbC mX11_isTray d [.int a1] M (jZ fun M1 b1 => (b1 = false → JC x jtbC mX11_isDone d [.ref (x.2.2.2 0), .int (1 : Int32)] M1 (jZ fun M2 b2 => P M2 b2)) ∧ (b1 = true → JC x jtbC mX11_isTray d [.int a3] M1 (jZ fun M3 b3 => (b3 = true → ∃ j1, j1 < 4 ∧ a1 = nI j1 ∧ (∃ j2, j2 < 4 ∧ a3 = nI j2 ∧ (((M3.1 (77 + 2 * j1) 0) = 0 → JC x jtbC mX11_isDone d [.ref (x.2.2.2 0), .int (3 : Int32)] M3 (jZ fun M4 b4 => P M4 b4)) ∧ (¬ (M3.1 (77 + 2 * j1) 0) = 0 → (¬ (M3.1 (77 + 2 * j2) 0) = 0 → ((M3.1 (77 + 2 * j1) 1) = (M3.1 (77 + 2 * j2) 1) → (0 ≤ a5 → JC x jtbC mX9_hasPlaces d [.ref (x.2.2.2 (77 + 2 * j1)), .int a2, .int a5] M3 (jZ fun M5 b5 => (b5 = false → JC x jtbC mX11_isDone d [.ref (x.2.2.2 0), .int (4 : Int32)] M5 (jZ fun M6 b6 => P M6 b6)) ∧ (b5 = true → JC x jtbC mX9_hasPlaces d [.ref (x.2.2.2 (77 + 2 * j2)), .int a4, .int a5] M5 (jZ fun M7 b7 => (b7 = true → ∃ c1, a2 = nI c1 ∧ ∃ c2, a4 = nI c2 ∧ ∃ c3, a5 = nI c3 ∧ c1 + c3 ≤ 60 ∧ c2 + c3 ≤ 60 ∧ (∀ M8, M8 = jrL M7 (77 + 2 * j2 + 1) (va_cpy (M7.2 (77 + 2 * j1 + 1)) (M7.2 (77 + 2 * j2 + 1)) c1 c2 c3) → JC x jtbC mX11_isDone d [.ref (x.2.2.2 0), .int (0 : Int32)] M8 (jZ fun M9 b8 => P M9 b8))) ∧ (b7 = false → JC x jtbC mX11_isDone d [.ref (x.2.2.2 0), .int (4 : Int32)] M7 (jZ fun M10 b9 => P M10 b9)))))) ∧ (¬ 0 ≤ a5 → JC x jtbC mX11_isDone d [.ref (x.2.2.2 0), .int (6 : Int32)] M3 (jZ fun M11 b10 => P M11 b10))) ∧ (¬ (M3.1 (77 + 2 * j1) 1) = (M3.1 (77 + 2 * j2) 1) → JC x jtbC mX11_isDone d [.ref (x.2.2.2 0), .int (11 : Int32)] M3 (jZ fun M12 b11 => P M12 b11))) ∧ ((M3.1 (77 + 2 * j2) 0) = 0 → JC x jtbC mX11_isDone d [.ref (x.2.2.2 0), .int (3 : Int32)] M3 (jZ fun M13 b12 => P M13 b12)))))) ∧ (b3 = false → JC x jtbC mX11_isDone d [.ref (x.2.2.2 0), .int (1 : Int32)] M3 (jZ fun M14 b13 => P M14 b13)))))) :
    JC x jtbC mX11_pour (d + 1) [.ref (x.2.2.2 0), .int a1, .int a2, .int a3, .int a4, .int a5] M (jZ P) := by
  refine JC.of rfl (Nat.le_of_ble_eq_true rfl) ?_
  refine jw_ls (ls' := [(0, .ref (x.2.2.2 0)), (1, .int a1), (2, .int a2), (3, .int a3), (4, .int a4), (5, .int a5)]) rfl ?_
  refine jw_iload_n (pc := 0) (j := 1) dX11_pour_0 rfl rfl ?_
  refine jw_callS (pc := 1) (m2 := mX11_isTray) (As := [.int a1]) (st := []) dX11_pour_1 gm_X11_isTray ml_X11_87 rfl (Nat.le_of_ble_eq_true rfl) (JC.mono h ?_)
  clear h
  rintro M1 _ ⟨b1, rfl, h⟩
  refine jw_st (st' := [.int (jb b1)]) rfl ?_
  refine jw_if_eq (pc := 4) (tgt := 14) dX11_pour_4 (by decide) (fun c => ?_) (fun c => ?_)
  · replace h := h.1 ((jb_0 _).mp c)
    refine jw_aload_n (pc := 14) (j := 0) dX11_pour_14 rfl rfl ?_
    refine jw_iconst (pc := 15) (v := 1) dX11_pour_15 rfl ?_
    refine jw_callV (pc := 16) (m2 := mX11_isDone) (As := [.int (1 : Int32)]) (st := []) dX11_pour_16 sC_0 (by decide) rfl rfl gm_X11_isDone ml_X11_91 rfl (Nat.le_of_ble_eq_true rfl) (JC.mono h ?_)
    clear h
    rintro M2 _ ⟨b2, rfl, h⟩
    refine jw_st (st' := [.int (jb b2)]) rfl ?_
    exact jw_zret (pc := 19) dX11_pour_19 rfl (jb_01 _) ⟨_, rfl, h⟩
  · replace h := h.2 (jb_ne c)
    refine jw_iload_n (pc := 7) (j := 3) dX11_pour_7 rfl rfl ?_
    refine jw_callS (pc := 8) (m2 := mX11_isTray) (As := [.int a3]) (st := []) dX11_pour_8 gm_X11_isTray ml_X11_87 rfl (Nat.le_of_ble_eq_true rfl) (JC.mono h ?_)
    clear h
    rintro M3 _ ⟨b3, rfl, h⟩
    refine jw_st (st' := [.int (jb b3)]) rfl ?_
    refine jw_if_ne (pc := 11) (tgt := 20) dX11_pour_11 (by decide) (fun c => ?_) (fun c => ?_)
    · replace h := h.1 (jb_ne c)
      refine jw_aload_n (pc := 20) (j := 0) dX11_pour_20 rfl rfl ?_
      refine jw_getR (pc := 21) (r := 1) dX11_pour_21 sC_0 fl_X11_11 (by decide) rfl rfl ?_
      refine jw_iload_n (pc := 24) (j := 1) dX11_pour_24 rfl rfl ?_
      obtain ⟨j1, hj1, ej1, h⟩ := h
      refine jw_aald24 (pc := 25) (j := j1) (r := 77 + 2 * j1) dX11_pour_25 sC_1 hj1 ej1 (by decide) (by simp [jel]) ?_
      refine jw_astore (pc := 26) (ls' := [(6, .ref (x.2.2.2 (77 + 2 * j1))), (0, .ref (x.2.2.2 0)), (1, .int a1), (2, .int a2), (3, .int a3), (4, .int a4), (5, .int a5)]) dX11_pour_26 (by decide) rfl ?_
      refine jw_aload_n (pc := 28) (j := 1) dX11_pour_28 rfl rfl ?_
      refine jw_getR (pc := 29) (r := 1) dX11_pour_29 sC_0 fl_X11_11 (by decide) rfl rfl ?_
      refine jw_iload_n (pc := 32) (j := 4) dX11_pour_32 rfl rfl ?_
      obtain ⟨j2, hj2, ej2, h⟩ := h
      refine jw_aald24 (pc := 33) (j := j2) (r := 77 + 2 * j2) dX11_pour_33 sC_1 hj2 ej2 (by decide) (by simp [jel]) ?_
      refine jw_astore (pc := 34) (ls' := [(7, .ref (x.2.2.2 (77 + 2 * j2))), (6, .ref (x.2.2.2 (77 + 2 * j1))), (0, .ref (x.2.2.2 0)), (1, .int a1), (2, .int a2), (3, .int a3), (4, .int a4), (5, .int a5)]) dX11_pour_34 (by decide) rfl ?_
      refine jw_aload (pc := 36) (j := 1) dX11_pour_36 rfl ?_
      refine jw_getI (pc := 38) dX11_pour_38 (at9 hj1).1 fl_X11_113 (by decide) rfl ?_
      refine jw_if_eq (pc := 41) (tgt := 52) dX11_pour_41 (by decide) (fun c => ?_) (fun c => ?_)
      · replace h := h.1 c
        refine jw_aload_n (pc := 52) (j := 2) dX11_pour_52 rfl rfl ?_
        refine jw_iconst (pc := 53) (v := 3) dX11_pour_53 rfl ?_
        refine jw_callV (pc := 54) (m2 := mX11_isDone) (As := [.int (3 : Int32)]) (st := []) dX11_pour_54 sC_0 (by decide) rfl rfl gm_X11_isDone ml_X11_91 rfl (Nat.le_of_ble_eq_true rfl) (JC.mono h ?_)
        clear h
        rintro M4 _ ⟨b4, rfl, h⟩
        refine jw_st (st' := [.int (jb b4)]) rfl ?_
        exact jw_zret (pc := 57) dX11_pour_57 rfl (jb_01 _) ⟨_, rfl, h⟩
      · replace h := h.2 c
        refine jw_aload (pc := 44) (j := 0) dX11_pour_44 rfl ?_
        refine jw_getI (pc := 46) dX11_pour_46 (at9 hj2).1 fl_X11_113 (by decide) rfl ?_
        refine jw_if_ne (pc := 49) (tgt := 58) dX11_pour_49 (by decide) (fun c => ?_) (fun c => ?_)
        · replace h := h.1 c
          refine jw_aload (pc := 58) (j := 1) dX11_pour_58 rfl ?_
          refine jw_getI (pc := 60) dX11_pour_60 (at9 hj1).1 fl_X11_117 (by decide) rfl ?_
          refine jw_aload (pc := 63) (j := 0) dX11_pour_63 rfl ?_
          refine jw_getI (pc := 65) dX11_pour_65 (at9 hj2).1 fl_X11_117 (by decide) rfl ?_
          refine jw_icmp_eq (pc := 68) (tgt := 78) dX11_pour_68 (by decide) (fun c => ?_) (fun c => ?_)
          · replace h := h.1 c
            refine jw_iload (pc := 78) (j := 7) dX11_pour_78 rfl ?_
            refine jw_if_ge (pc := 80) (tgt := 90) dX11_pour_80 (by decide) (fun c => ?_) (fun c => ?_)
            · replace h := h.1 c
              refine jw_aload (pc := 90) (j := 1) dX11_pour_90 rfl ?_
              refine jw_iload_n (pc := 92) (j := 4) dX11_pour_92 rfl rfl ?_
              refine jw_iload (pc := 93) (j := 7) dX11_pour_93 rfl ?_
              refine jw_callV (pc := 95) (m2 := mX9_hasPlaces) (As := [.int a2, .int a5]) (st := []) dX11_pour_95 (at9 hj1).1 (by decide) rfl rfl gm_X9_hasPlaces ml_X11_120 rfl (Nat.le_of_ble_eq_true rfl) (JC.mono h ?_)
              clear h
              rintro M5 _ ⟨b5, rfl, h⟩
              refine jw_st (st' := [.int (jb b5)]) rfl ?_
              refine jw_if_eq (pc := 98) (tgt := 113) dX11_pour_98 (by decide) (fun c => ?_) (fun c => ?_)
              · replace h := h.1 ((jb_0 _).mp c)
                refine jw_aload_n (pc := 113) (j := 2) dX11_pour_113 rfl rfl ?_
                refine jw_iconst (pc := 114) (v := 4) dX11_pour_114 rfl ?_
                refine jw_callV (pc := 115) (m2 := mX11_isDone) (As := [.int (4 : Int32)]) (st := []) dX11_pour_115 sC_0 (by decide) rfl rfl gm_X11_isDone ml_X11_91 rfl (Nat.le_of_ble_eq_true rfl) (JC.mono h ?_)
                clear h
                rintro M6 _ ⟨b6, rfl, h⟩
                refine jw_st (st' := [.int (jb b6)]) rfl ?_
                exact jw_zret (pc := 118) dX11_pour_118 rfl (jb_01 _) ⟨_, rfl, h⟩
              · replace h := h.2 (jb_ne c)
                refine jw_aload (pc := 101) (j := 0) dX11_pour_101 rfl ?_
                refine jw_iload (pc := 103) (j := 6) dX11_pour_103 rfl ?_
                refine jw_iload (pc := 105) (j := 7) dX11_pour_105 rfl ?_
                refine jw_callV (pc := 107) (m2 := mX9_hasPlaces) (As := [.int a4, .int a5]) (st := []) dX11_pour_107 (at9 hj2).1 (by decide) rfl rfl gm_X9_hasPlaces ml_X11_120 rfl (Nat.le_of_ble_eq_true rfl) (JC.mono h ?_)
                clear h
                rintro M7 _ ⟨b7, rfl, h⟩
                refine jw_st (st' := [.int (jb b7)]) rfl ?_
                refine jw_if_ne (pc := 110) (tgt := 119) dX11_pour_110 (by decide) (fun c => ?_) (fun c => ?_)
                · replace h := h.1 (jb_ne c)
                  refine jw_aload (pc := 119) (j := 1) dX11_pour_119 rfl ?_
                  refine jw_getR (pc := 121) (r := 77 + 2 * j1 + 1) dX11_pour_121 (at9 hj1).1 fl_X11_110 (by decide) rfl rfl ?_
                  refine jw_iload_n (pc := 124) (j := 4) dX11_pour_124 rfl rfl ?_
                  refine jw_aload (pc := 125) (j := 0) dX11_pour_125 rfl ?_
                  refine jw_getR (pc := 127) (r := 77 + 2 * j2 + 1) dX11_pour_127 (at9 hj2).1 fl_X11_110 (by decide) rfl rfl ?_
                  refine jw_iload (pc := 130) (j := 6) dX11_pour_130 rfl ?_
                  refine jw_iload (pc := 132) (j := 7) dX11_pour_132 rfl ?_
                  obtain ⟨c1, ec1, c2, ec2, c3, ec3, q1, q2, h⟩ := h
                  refine jw_copyL (pc := 134) (a := c1) (b := c2) (k := c3) (st := []) dX11_pour_134 ac_X11_124 ac_n ac_s ac_i (at9 hj1).2 (at9 hj2).2 ec1 ec2 ec3 q1 q2 (by decide) (by decide) (jcw (Nat.le_of_ble_eq_true rfl)) ?_
                  replace h := h _ rfl
                  generalize jrL M7 (77 + 2 * j2 + 1) (va_cpy (M7.2 (77 + 2 * j1 + 1)) (M7.2 (77 + 2 * j2 + 1)) c1 c2 c3) = M8 at h ⊢
                  refine jw_aload_n (pc := 137) (j := 2) dX11_pour_137 rfl rfl ?_
                  refine jw_iconst (pc := 138) (v := 0) dX11_pour_138 rfl ?_
                  refine jw_callV (pc := 139) (m2 := mX11_isDone) (As := [.int (0 : Int32)]) (st := []) dX11_pour_139 sC_0 (by decide) rfl rfl gm_X11_isDone ml_X11_91 rfl (Nat.le_of_ble_eq_true rfl) (JC.mono h ?_)
                  clear h
                  rintro M9 _ ⟨b8, rfl, h⟩
                  refine jw_st (st' := [.int (jb b8)]) rfl ?_
                  exact jw_zret (pc := 142) dX11_pour_142 rfl (jb_01 _) ⟨_, rfl, h⟩
                · replace h := h.2 ((jb_0 _).mp c)
                  refine jw_aload_n (pc := 113) (j := 2) dX11_pour_113 rfl rfl ?_
                  refine jw_iconst (pc := 114) (v := 4) dX11_pour_114 rfl ?_
                  refine jw_callV (pc := 115) (m2 := mX11_isDone) (As := [.int (4 : Int32)]) (st := []) dX11_pour_115 sC_0 (by decide) rfl rfl gm_X11_isDone ml_X11_91 rfl (Nat.le_of_ble_eq_true rfl) (JC.mono h ?_)
                  clear h
                  rintro M10 _ ⟨b9, rfl, h⟩
                  refine jw_st (st' := [.int (jb b9)]) rfl ?_
                  exact jw_zret (pc := 118) dX11_pour_118 rfl (jb_01 _) ⟨_, rfl, h⟩
            · replace h := h.2 c
              refine jw_aload_n (pc := 83) (j := 2) dX11_pour_83 rfl rfl ?_
              refine jw_bipush (pc := 84) (v := 6) dX11_pour_84 rfl ?_
              refine jw_callV (pc := 86) (m2 := mX11_isDone) (As := [.int (6 : Int32)]) (st := []) dX11_pour_86 sC_0 (by decide) rfl rfl gm_X11_isDone ml_X11_91 rfl (Nat.le_of_ble_eq_true rfl) (JC.mono h ?_)
              clear h
              rintro M11 _ ⟨b10, rfl, h⟩
              refine jw_st (st' := [.int (jb b10)]) rfl ?_
              exact jw_zret (pc := 89) dX11_pour_89 rfl (jb_01 _) ⟨_, rfl, h⟩
          · replace h := h.2 c
            refine jw_aload_n (pc := 71) (j := 2) dX11_pour_71 rfl rfl ?_
            refine jw_bipush (pc := 72) (v := 11) dX11_pour_72 rfl ?_
            refine jw_callV (pc := 74) (m2 := mX11_isDone) (As := [.int (11 : Int32)]) (st := []) dX11_pour_74 sC_0 (by decide) rfl rfl gm_X11_isDone ml_X11_91 rfl (Nat.le_of_ble_eq_true rfl) (JC.mono h ?_)
            clear h
            rintro M12 _ ⟨b11, rfl, h⟩
            refine jw_st (st' := [.int (jb b11)]) rfl ?_
            exact jw_zret (pc := 77) dX11_pour_77 rfl (jb_01 _) ⟨_, rfl, h⟩
        · replace h := h.2 c
          refine jw_aload_n (pc := 52) (j := 2) dX11_pour_52 rfl rfl ?_
          refine jw_iconst (pc := 53) (v := 3) dX11_pour_53 rfl ?_
          refine jw_callV (pc := 54) (m2 := mX11_isDone) (As := [.int (3 : Int32)]) (st := []) dX11_pour_54 sC_0 (by decide) rfl rfl gm_X11_isDone ml_X11_91 rfl (Nat.le_of_ble_eq_true rfl) (JC.mono h ?_)
          clear h
          rintro M13 _ ⟨b12, rfl, h⟩
          refine jw_st (st' := [.int (jb b12)]) rfl ?_
          exact jw_zret (pc := 57) dX11_pour_57 rfl (jb_01 _) ⟨_, rfl, h⟩
    · replace h := h.2 ((jb_0 _).mp c)
      refine jw_aload_n (pc := 14) (j := 0) dX11_pour_14 rfl rfl ?_
      refine jw_iconst (pc := 15) (v := 1) dX11_pour_15 rfl ?_
      refine jw_callV (pc := 16) (m2 := mX11_isDone) (As := [.int (1 : Int32)]) (st := []) dX11_pour_16 sC_0 (by decide) rfl rfl gm_X11_isDone ml_X11_91 rfl (Nat.le_of_ble_eq_true rfl) (JC.mono h ?_)
      clear h
      rintro M14 _ ⟨b13, rfl, h⟩
      refine jw_st (st' := [.int (jb b13)]) rfl ?_
      exact jw_zret (pc := 19) dX11_pour_19 rfl (jb_01 _) ⟨_, rfl, h⟩
set_option maxRecDepth 20000 in
theorem b_X11_feed {x : jX} {d : Nat} {M : jM} {P : jM → Int32 → Prop} {a1 : Int32} {a2 : Int32} {a3 : Int32} {a4 : Int32} {a5 : Int32} 
    (h : (((M.1 0 14) + (20 : Int32)) ≤ (900 : Int32) → JC x jtbC mX11_putBytes d [.ref (x.2.2.2 0), .int a1] M (jV fun M1 => JC x jtbC mX11_putBytes d [.ref (x.2.2.2 0), .int a2] M1 (jV fun M2 => JC x jtbC mX11_putBytes d [.ref (x.2.2.2 0), .int a3] M2 (jV fun M3 => JC x jtbC mX11_putBytes d [.ref (x.2.2.2 0), .int a4] M3 (jV fun M4 => JC x jtbC mX11_putBytes d [.ref (x.2.2.2 0), .int a5] M4 (jV fun M5 => P M5 (M5.1 0 14))))))) ∧ (¬ ((M.1 0 14) + (20 : Int32)) ≤ (900 : Int32) → P M (-1 : Int32))) :
    JC x jtbC mX11_feed (d + 1) [.ref (x.2.2.2 0), .int a1, .int a2, .int a3, .int a4, .int a5] M (jI P) := by
  refine JC.of rfl (Nat.le_of_ble_eq_true rfl) ?_
  refine jw_ls (ls' := [(0, .ref (x.2.2.2 0)), (1, .int a1), (2, .int a2), (3, .int a3), (4, .int a4), (5, .int a5)]) rfl ?_
  refine jw_aload_n (pc := 0) (j := 0) dX11_feed_0 rfl rfl ?_
  refine jw_getI (pc := 1) dX11_feed_1 sC_0 fl_X11_130 (by decide) rfl ?_
  refine jw_bipush (pc := 4) (v := 20) dX11_feed_4 rfl ?_
  refine jw_iadd (pc := 6) dX11_feed_6 ?_
  refine jw_sipush (pc := 7) (v := 900) dX11_feed_7 rfl ?_
  refine jw_icmp_le (pc := 10) (tgt := 15) dX11_feed_10 (by decide) (fun c => ?_) (fun c => ?_)
  · replace h := h.1 c
    refine jw_aload_n (pc := 15) (j := 0) dX11_feed_15 rfl rfl ?_
    refine jw_iload_n (pc := 16) (j := 1) dX11_feed_16 rfl rfl ?_
    refine jw_callV (pc := 17) (m2 := mX11_putBytes) (As := [.int a1]) (st := []) dX11_feed_17 sC_0 (by decide) rfl rfl gm_X11_putBytes ml_X11_133 rfl (Nat.le_of_ble_eq_true rfl) (JC.mono h ?_)
    clear h
    rintro M1 _ ⟨rfl, h⟩
    refine jw_st (st' := []) rfl ?_
    refine jw_aload_n (pc := 20) (j := 0) dX11_feed_20 rfl rfl ?_
    refine jw_iload_n (pc := 21) (j := 2) dX11_feed_21 rfl rfl ?_
    refine jw_callV (pc := 22) (m2 := mX11_putBytes) (As := [.int a2]) (st := []) dX11_feed_22 sC_0 (by decide) rfl rfl gm_X11_putBytes ml_X11_133 rfl (Nat.le_of_ble_eq_true rfl) (JC.mono h ?_)
    clear h
    rintro M2 _ ⟨rfl, h⟩
    refine jw_st (st' := []) rfl ?_
    refine jw_aload_n (pc := 25) (j := 0) dX11_feed_25 rfl rfl ?_
    refine jw_iload_n (pc := 26) (j := 3) dX11_feed_26 rfl rfl ?_
    refine jw_callV (pc := 27) (m2 := mX11_putBytes) (As := [.int a3]) (st := []) dX11_feed_27 sC_0 (by decide) rfl rfl gm_X11_putBytes ml_X11_133 rfl (Nat.le_of_ble_eq_true rfl) (JC.mono h ?_)
    clear h
    rintro M3 _ ⟨rfl, h⟩
    refine jw_st (st' := []) rfl ?_
    refine jw_aload_n (pc := 30) (j := 0) dX11_feed_30 rfl rfl ?_
    refine jw_iload (pc := 31) (j := 4) dX11_feed_31 rfl ?_
    refine jw_callV (pc := 33) (m2 := mX11_putBytes) (As := [.int a4]) (st := []) dX11_feed_33 sC_0 (by decide) rfl rfl gm_X11_putBytes ml_X11_133 rfl (Nat.le_of_ble_eq_true rfl) (JC.mono h ?_)
    clear h
    rintro M4 _ ⟨rfl, h⟩
    refine jw_st (st' := []) rfl ?_
    refine jw_aload_n (pc := 36) (j := 0) dX11_feed_36 rfl rfl ?_
    refine jw_iload (pc := 37) (j := 5) dX11_feed_37 rfl ?_
    refine jw_callV (pc := 39) (m2 := mX11_putBytes) (As := [.int a5]) (st := []) dX11_feed_39 sC_0 (by decide) rfl rfl gm_X11_putBytes ml_X11_133 rfl (Nat.le_of_ble_eq_true rfl) (JC.mono h ?_)
    clear h
    rintro M5 _ ⟨rfl, h⟩
    refine jw_st (st' := []) rfl ?_
    refine jw_aload_n (pc := 42) (j := 0) dX11_feed_42 rfl rfl ?_
    refine jw_getI (pc := 43) dX11_feed_43 sC_0 fl_X11_130 (by decide) rfl ?_
    exact jw_iret (pc := 46) dX11_feed_46 rfl ⟨_, rfl, h⟩
  · replace h := h.2 c
    refine jw_iconst (pc := 13) (v := (-1)) dX11_feed_13 rfl ?_
    exact jw_iret (pc := 14) dX11_feed_14 rfl ⟨_, rfl, h⟩
set_option maxRecDepth 20000 in
theorem b_X11_plain {x : jX} {d : Nat} {M : jM} {P : jM → Int32 → Prop} {a1 : Int32} 
    (h : (a1 < 0 → JC x jtbC mX11_refused d [.ref (x.2.2.2 0), .int (5 : Int32)] M (jI fun M1 r1 => P M1 r1)) ∧ (¬ a1 < 0 → (a1 ≤ (M.1 0 14) → ∀ M2, M2 = jrI M 0 (upd (M.1 0) 14 (0 : Int32)) → JC x jtbC mX6_readPlain d [.ref (x.2.2.2 3), .ref (x.2.2.2 2), .int a1] M2 (jZ fun M3 b1 => JC x jtbC mX11_tellFault d [.ref (x.2.2.2 0), .ref (x.2.2.2 13)] M3 (jV fun M4 => (b1 = true → JC x jtbC mX10_settle d [.ref (x.2.2.2 29), .ref (x.2.2.2 4)] M4 (jV fun M5 => JC x jtbC mX11_answered d [.ref (x.2.2.2 0), .int (M5.1 30 2)] M5 (jI fun M6 r2 => P M6 r2))) ∧ (b1 = false → JC x jtbC mX11_refused d [.ref (x.2.2.2 0), .int (10 : Int32)] M4 (jI fun M7 r3 => P M7 r3))))) ∧ (¬ a1 ≤ (M.1 0 14) → JC x jtbC mX11_refused d [.ref (x.2.2.2 0), .int (5 : Int32)] M (jI fun M8 r4 => P M8 r4)))) :
    JC x jtbC mX11_plain (d + 1) [.ref (x.2.2.2 0), .int a1] M (jI P) := by
  refine JC.of rfl (Nat.le_of_ble_eq_true rfl) ?_
  refine jw_ls (ls' := [(0, .ref (x.2.2.2 0)), (1, .int a1)]) rfl ?_
  refine jw_iload_n (pc := 0) (j := 1) dX11_plain_0 rfl rfl ?_
  refine jw_if_lt (pc := 1) (tgt := 12) dX11_plain_1 (by decide) (fun c => ?_) (fun c => ?_)
  · replace h := h.1 c
    refine jw_aload_n (pc := 12) (j := 0) dX11_plain_12 rfl rfl ?_
    refine jw_iconst (pc := 13) (v := 5) dX11_plain_13 rfl ?_
    refine jw_callV (pc := 14) (m2 := mX11_refused) (As := [.int (5 : Int32)]) (st := []) dX11_plain_14 sC_0 (by decide) rfl rfl gm_X11_refused ml_X11_106 rfl (Nat.le_of_ble_eq_true rfl) (JC.mono h ?_)
    clear h
    rintro M1 _ ⟨r1, rfl, h⟩
    refine jw_st (st' := [.int r1]) rfl ?_
    exact jw_iret (pc := 17) dX11_plain_17 rfl ⟨_, rfl, h⟩
  · replace h := h.2 c
    refine jw_iload_n (pc := 4) (j := 1) dX11_plain_4 rfl rfl ?_
    refine jw_aload_n (pc := 5) (j := 0) dX11_plain_5 rfl rfl ?_
    refine jw_getI (pc := 6) dX11_plain_6 sC_0 fl_X11_130 (by decide) rfl ?_
    refine jw_icmp_le (pc := 9) (tgt := 18) dX11_plain_9 (by decide) (fun c => ?_) (fun c => ?_)
    · replace h := h.1 c
      refine jw_aload_n (pc := 18) (j := 0) dX11_plain_18 rfl rfl ?_
      refine jw_iconst (pc := 19) (v := 0) dX11_plain_19 rfl ?_
      refine jw_putI (pc := 20) dX11_plain_20 sC_0 fl_X11_130 fw_11_14 (by decide) rfl ?_
      replace h := h _ rfl
      generalize jrI M 0 (upd (M.1 0) 14 (0 : Int32)) = M2 at h ⊢
      refine jw_aload_n (pc := 23) (j := 0) dX11_plain_23 rfl rfl ?_
      refine jw_getR (pc := 24) (r := 3) dX11_plain_24 sC_0 fl_X11_22 (by decide) rfl rfl ?_
      refine jw_aload_n (pc := 27) (j := 0) dX11_plain_27 rfl rfl ?_
      refine jw_getR (pc := 28) (r := 2) dX11_plain_28 sC_0 fl_X11_15 (by decide) rfl rfl ?_
      refine jw_iload_n (pc := 31) (j := 1) dX11_plain_31 rfl rfl ?_
      refine jw_callV (pc := 32) (m2 := mX6_readPlain) (As := [.ref (x.2.2.2 2), .int a1]) (st := []) dX11_plain_32 sC_3 (by decide) rfl rfl gm_X6_readPlain ml_X11_137 rfl (Nat.le_of_ble_eq_true rfl) (JC.mono h ?_)
      clear h
      rintro M3 _ ⟨b1, rfl, h⟩
      refine jw_st (st' := [.int (jb b1)]) rfl ?_
      refine jw_istore_n (pc := 35) (ls' := [(2, .int (jb b1)), (0, .ref (x.2.2.2 0)), (1, .int a1)]) dX11_plain_35 rfl (by decide) rfl ?_
      refine jw_aload_n (pc := 36) (j := 1) dX11_plain_36 rfl rfl ?_
      refine jw_aload_n (pc := 37) (j := 1) dX11_plain_37 rfl rfl ?_
      refine jw_getR (pc := 38) (r := 3) dX11_plain_38 sC_0 fl_X11_22 (by decide) rfl rfl ?_
      refine jw_getR (pc := 41) (r := 13) dX11_plain_41 sC_3 fl_X11_141 (by decide) rfl rfl ?_
      refine jw_callV (pc := 44) (m2 := mX11_tellFault) (As := [.ref (x.2.2.2 13)]) (st := []) dX11_plain_44 sC_0 (by decide) rfl rfl gm_X11_tellFault ml_X11_145 rfl (Nat.le_of_ble_eq_true rfl) (JC.mono h ?_)
      clear h
      rintro M4 _ ⟨rfl, h⟩
      refine jw_st (st' := []) rfl ?_
      refine jw_iload_n (pc := 47) (j := 0) dX11_plain_47 rfl rfl ?_
      refine jw_if_ne (pc := 48) (tgt := 58) dX11_plain_48 (by decide) (fun c => ?_) (fun c => ?_)
      · replace h := h.1 (jb_ne c)
        refine jw_aload_n (pc := 58) (j := 1) dX11_plain_58 rfl rfl ?_
        refine jw_getR (pc := 59) (r := 29) dX11_plain_59 sC_0 fl_X11_36 (by decide) rfl rfl ?_
        refine jw_aload_n (pc := 62) (j := 1) dX11_plain_62 rfl rfl ?_
        refine jw_getR (pc := 63) (r := 3) dX11_plain_63 sC_0 fl_X11_22 (by decide) rfl rfl ?_
        refine jw_getR (pc := 66) (r := 4) dX11_plain_66 sC_3 fl_X11_149 (by decide) rfl rfl ?_
        refine jw_callV (pc := 69) (m2 := mX10_settle) (As := [.ref (x.2.2.2 4)]) (st := []) dX11_plain_69 sC_29 (by decide) rfl rfl gm_X10_settle ml_X11_153 rfl (Nat.le_of_ble_eq_true rfl) (JC.mono h ?_)
        clear h
        rintro M5 _ ⟨rfl, h⟩
        refine jw_st (st' := []) rfl ?_
        refine jw_aload_n (pc := 72) (j := 1) dX11_plain_72 rfl rfl ?_
        refine jw_aload_n (pc := 73) (j := 1) dX11_plain_73 rfl rfl ?_
        refine jw_getR (pc := 74) (r := 29) dX11_plain_74 sC_0 fl_X11_36 (by decide) rfl rfl ?_
        refine jw_getR (pc := 77) (r := 30) dX11_plain_77 sC_29 fl_X11_157 (by decide) rfl rfl ?_
        refine jw_getI (pc := 80) dX11_plain_80 sC_30 fl_X11_160 (by decide) rfl ?_
        refine jw_callV (pc := 83) (m2 := mX11_answered) (As := [.int (M5.1 30 2)]) (st := []) dX11_plain_83 sC_0 (by decide) rfl rfl gm_X11_answered ml_X11_165 rfl (Nat.le_of_ble_eq_true rfl) (JC.mono h ?_)
        clear h
        rintro M6 _ ⟨r2, rfl, h⟩
        refine jw_st (st' := [.int r2]) rfl ?_
        exact jw_iret (pc := 86) dX11_plain_86 rfl ⟨_, rfl, h⟩
      · replace h := h.2 ((jb_0 _).mp c)
        refine jw_aload_n (pc := 51) (j := 1) dX11_plain_51 rfl rfl ?_
        refine jw_bipush (pc := 52) (v := 10) dX11_plain_52 rfl ?_
        refine jw_callV (pc := 54) (m2 := mX11_refused) (As := [.int (10 : Int32)]) (st := []) dX11_plain_54 sC_0 (by decide) rfl rfl gm_X11_refused ml_X11_106 rfl (Nat.le_of_ble_eq_true rfl) (JC.mono h ?_)
        clear h
        rintro M7 _ ⟨r3, rfl, h⟩
        refine jw_st (st' := [.int r3]) rfl ?_
        exact jw_iret (pc := 57) dX11_plain_57 rfl ⟨_, rfl, h⟩
    · replace h := h.2 c
      refine jw_aload_n (pc := 12) (j := 0) dX11_plain_12 rfl rfl ?_
      refine jw_iconst (pc := 13) (v := 5) dX11_plain_13 rfl ?_
      refine jw_callV (pc := 14) (m2 := mX11_refused) (As := [.int (5 : Int32)]) (st := []) dX11_plain_14 sC_0 (by decide) rfl rfl gm_X11_refused ml_X11_106 rfl (Nat.le_of_ble_eq_true rfl) (JC.mono h ?_)
      clear h
      rintro M8 _ ⟨r4, rfl, h⟩
      refine jw_st (st' := [.int r4]) rfl ?_
      exact jw_iret (pc := 17) dX11_plain_17 rfl ⟨_, rfl, h⟩
set_option maxRecDepth 20000 in
theorem b_X11_orders {x : jX} {d : Nat} {M : jM} {P : jM → Int32 → Prop} {a1 : Int32} 
    (h : (a1 < 0 → JC x jtbC mX11_refused d [.ref (x.2.2.2 0), .int (5 : Int32)] M (jI fun M1 r1 => P M1 r1)) ∧ (¬ a1 < 0 → ((M.1 0 14) < a1 → JC x jtbC mX11_refused d [.ref (x.2.2.2 0), .int (5 : Int32)] M (jI fun M2 r2 => P M2 r2)) ∧ (¬ (M.1 0 14) < a1 → (a1 ≤ (300 : Int32) → ∀ M3, M3 = jrI M 0 (upd (M.1 0) 14 (0 : Int32)) → JC x jtbC mX4_readOrders d [.ref (x.2.2.2 16), .ref (x.2.2.2 2), .int a1, .ref (x.2.2.2 30)] M3 (jZ fun M4 b1 => JC x jtbC mX11_tellFault d [.ref (x.2.2.2 0), .ref (x.2.2.2 25)] M4 (jV fun M5 => (b1 = true → JC x jtbC mX3_copyFrom d [.ref (x.2.2.2 40), .ref (x.2.2.2 17)] M5 (jV fun M6 => JC x jtbC mX11_answered d [.ref (x.2.2.2 0), .int (M6.1 40 1)] M6 (jI fun M7 r3 => P M7 r3))) ∧ (b1 = false → JC x jtbC mX11_refused d [.ref (x.2.2.2 0), .int (10 : Int32)] M5 (jI fun M8 r4 => P M8 r4))))) ∧ (¬ a1 ≤ (300 : Int32) → JC x jtbC mX11_refused d [.ref (x.2.2.2 0), .int (5 : Int32)] M (jI fun M9 r5 => P M9 r5))))) :
    JC x jtbC mX11_orders (d + 1) [.ref (x.2.2.2 0), .int a1] M (jI P) := by
  refine JC.of rfl (Nat.le_of_ble_eq_true rfl) ?_
  refine jw_ls (ls' := [(0, .ref (x.2.2.2 0)), (1, .int a1)]) rfl ?_
  refine jw_iload_n (pc := 0) (j := 1) dX11_orders_0 rfl rfl ?_
  refine jw_if_lt (pc := 1) (tgt := 19) dX11_orders_1 (by decide) (fun c => ?_) (fun c => ?_)
  · replace h := h.1 c
    refine jw_aload_n (pc := 19) (j := 0) dX11_orders_19 rfl rfl ?_
    refine jw_iconst (pc := 20) (v := 5) dX11_orders_20 rfl ?_
    refine jw_callV (pc := 21) (m2 := mX11_refused) (As := [.int (5 : Int32)]) (st := []) dX11_orders_21 sC_0 (by decide) rfl rfl gm_X11_refused ml_X11_106 rfl (Nat.le_of_ble_eq_true rfl) (JC.mono h ?_)
    clear h
    rintro M1 _ ⟨r1, rfl, h⟩
    refine jw_st (st' := [.int r1]) rfl ?_
    exact jw_iret (pc := 24) dX11_orders_24 rfl ⟨_, rfl, h⟩
  · replace h := h.2 c
    refine jw_iload_n (pc := 4) (j := 1) dX11_orders_4 rfl rfl ?_
    refine jw_aload_n (pc := 5) (j := 0) dX11_orders_5 rfl rfl ?_
    refine jw_getI (pc := 6) dX11_orders_6 sC_0 fl_X11_130 (by decide) rfl ?_
    refine jw_icmp_gt (pc := 9) (tgt := 19) dX11_orders_9 (by decide) (fun c => ?_) (fun c => ?_)
    · replace h := h.1 c
      refine jw_aload_n (pc := 19) (j := 0) dX11_orders_19 rfl rfl ?_
      refine jw_iconst (pc := 20) (v := 5) dX11_orders_20 rfl ?_
      refine jw_callV (pc := 21) (m2 := mX11_refused) (As := [.int (5 : Int32)]) (st := []) dX11_orders_21 sC_0 (by decide) rfl rfl gm_X11_refused ml_X11_106 rfl (Nat.le_of_ble_eq_true rfl) (JC.mono h ?_)
      clear h
      rintro M2 _ ⟨r2, rfl, h⟩
      refine jw_st (st' := [.int r2]) rfl ?_
      exact jw_iret (pc := 24) dX11_orders_24 rfl ⟨_, rfl, h⟩
    · replace h := h.2 c
      refine jw_iload_n (pc := 12) (j := 1) dX11_orders_12 rfl rfl ?_
      refine jw_sipush (pc := 13) (v := 300) dX11_orders_13 rfl ?_
      refine jw_icmp_le (pc := 16) (tgt := 25) dX11_orders_16 (by decide) (fun c => ?_) (fun c => ?_)
      · replace h := h.1 c
        refine jw_aload_n (pc := 25) (j := 0) dX11_orders_25 rfl rfl ?_
        refine jw_iconst (pc := 26) (v := 0) dX11_orders_26 rfl ?_
        refine jw_putI (pc := 27) dX11_orders_27 sC_0 fl_X11_130 fw_11_14 (by decide) rfl ?_
        replace h := h _ rfl
        generalize jrI M 0 (upd (M.1 0) 14 (0 : Int32)) = M3 at h ⊢
        refine jw_aload_n (pc := 30) (j := 0) dX11_orders_30 rfl rfl ?_
        refine jw_getR (pc := 31) (r := 16) dX11_orders_31 sC_0 fl_X11_29 (by decide) rfl rfl ?_
        refine jw_aload_n (pc := 34) (j := 0) dX11_orders_34 rfl rfl ?_
        refine jw_getR (pc := 35) (r := 2) dX11_orders_35 sC_0 fl_X11_15 (by decide) rfl rfl ?_
        refine jw_iload_n (pc := 38) (j := 1) dX11_orders_38 rfl rfl ?_
        refine jw_aload_n (pc := 39) (j := 0) dX11_orders_39 rfl rfl ?_
        refine jw_getR (pc := 40) (r := 29) dX11_orders_40 sC_0 fl_X11_36 (by decide) rfl rfl ?_
        refine jw_getR (pc := 43) (r := 30) dX11_orders_43 sC_29 fl_X11_157 (by decide) rfl rfl ?_
        refine jw_callV (pc := 46) (m2 := mX4_readOrders) (As := [.ref (x.2.2.2 2), .int a1, .ref (x.2.2.2 30)]) (st := []) dX11_orders_46 sC_16 (by decide) rfl rfl gm_X4_readOrders ml_X11_168 rfl (Nat.le_of_ble_eq_true rfl) (JC.mono h ?_)
        clear h
        rintro M4 _ ⟨b1, rfl, h⟩
        refine jw_st (st' := [.int (jb b1)]) rfl ?_
        refine jw_istore_n (pc := 49) (ls' := [(2, .int (jb b1)), (0, .ref (x.2.2.2 0)), (1, .int a1)]) dX11_orders_49 rfl (by decide) rfl ?_
        refine jw_aload_n (pc := 50) (j := 1) dX11_orders_50 rfl rfl ?_
        refine jw_aload_n (pc := 51) (j := 1) dX11_orders_51 rfl rfl ?_
        refine jw_getR (pc := 52) (r := 16) dX11_orders_52 sC_0 fl_X11_29 (by decide) rfl rfl ?_
        refine jw_getR (pc := 55) (r := 25) dX11_orders_55 sC_16 fl_X11_172 (by decide) rfl rfl ?_
        refine jw_callV (pc := 58) (m2 := mX11_tellFault) (As := [.ref (x.2.2.2 25)]) (st := []) dX11_orders_58 sC_0 (by decide) rfl rfl gm_X11_tellFault ml_X11_145 rfl (Nat.le_of_ble_eq_true rfl) (JC.mono h ?_)
        clear h
        rintro M5 _ ⟨rfl, h⟩
        refine jw_st (st' := []) rfl ?_
        refine jw_iload_n (pc := 61) (j := 0) dX11_orders_61 rfl rfl ?_
        refine jw_if_ne (pc := 62) (tgt := 72) dX11_orders_62 (by decide) (fun c => ?_) (fun c => ?_)
        · replace h := h.1 (jb_ne c)
          refine jw_aload_n (pc := 72) (j := 1) dX11_orders_72 rfl rfl ?_
          refine jw_getR (pc := 73) (r := 29) dX11_orders_73 sC_0 fl_X11_36 (by decide) rfl rfl ?_
          refine jw_getR (pc := 76) (r := 40) dX11_orders_76 sC_29 fl_X11_173 (by decide) rfl rfl ?_
          refine jw_aload_n (pc := 79) (j := 1) dX11_orders_79 rfl rfl ?_
          refine jw_getR (pc := 80) (r := 16) dX11_orders_80 sC_0 fl_X11_29 (by decide) rfl rfl ?_
          refine jw_getR (pc := 83) (r := 17) dX11_orders_83 sC_16 fl_X11_177 (by decide) rfl rfl ?_
          refine jw_callV (pc := 86) (m2 := mX3_copyFrom) (As := [.ref (x.2.2.2 17)]) (st := []) dX11_orders_86 sC_40 (by decide) rfl rfl gm_X3_copyFrom ml_X11_179 rfl (Nat.le_of_ble_eq_true rfl) (JC.mono h ?_)
          clear h
          rintro M6 _ ⟨rfl, h⟩
          refine jw_st (st' := []) rfl ?_
          refine jw_aload_n (pc := 89) (j := 1) dX11_orders_89 rfl rfl ?_
          refine jw_aload_n (pc := 90) (j := 1) dX11_orders_90 rfl rfl ?_
          refine jw_getR (pc := 91) (r := 29) dX11_orders_91 sC_0 fl_X11_36 (by decide) rfl rfl ?_
          refine jw_getR (pc := 94) (r := 40) dX11_orders_94 sC_29 fl_X11_173 (by decide) rfl rfl ?_
          refine jw_getI (pc := 97) dX11_orders_97 sC_40 fl_X11_185 (by decide) rfl ?_
          refine jw_callV (pc := 100) (m2 := mX11_answered) (As := [.int (M6.1 40 1)]) (st := []) dX11_orders_100 sC_0 (by decide) rfl rfl gm_X11_answered ml_X11_165 rfl (Nat.le_of_ble_eq_true rfl) (JC.mono h ?_)
          clear h
          rintro M7 _ ⟨r3, rfl, h⟩
          refine jw_st (st' := [.int r3]) rfl ?_
          exact jw_iret (pc := 103) dX11_orders_103 rfl ⟨_, rfl, h⟩
        · replace h := h.2 ((jb_0 _).mp c)
          refine jw_aload_n (pc := 65) (j := 1) dX11_orders_65 rfl rfl ?_
          refine jw_bipush (pc := 66) (v := 10) dX11_orders_66 rfl ?_
          refine jw_callV (pc := 68) (m2 := mX11_refused) (As := [.int (10 : Int32)]) (st := []) dX11_orders_68 sC_0 (by decide) rfl rfl gm_X11_refused ml_X11_106 rfl (Nat.le_of_ble_eq_true rfl) (JC.mono h ?_)
          clear h
          rintro M8 _ ⟨r4, rfl, h⟩
          refine jw_st (st' := [.int r4]) rfl ?_
          exact jw_iret (pc := 71) dX11_orders_71 rfl ⟨_, rfl, h⟩
      · replace h := h.2 c
        refine jw_aload_n (pc := 19) (j := 0) dX11_orders_19 rfl rfl ?_
        refine jw_iconst (pc := 20) (v := 5) dX11_orders_20 rfl ?_
        refine jw_callV (pc := 21) (m2 := mX11_refused) (As := [.int (5 : Int32)]) (st := []) dX11_orders_21 sC_0 (by decide) rfl rfl gm_X11_refused ml_X11_106 rfl (Nat.le_of_ble_eq_true rfl) (JC.mono h ?_)
        clear h
        rintro M9 _ ⟨r5, rfl, h⟩
        refine jw_st (st' := [.int r5]) rfl ?_
        exact jw_iret (pc := 24) dX11_orders_24 rfl ⟨_, rfl, h⟩
set_option maxRecDepth 20000 in
theorem b_X11_fault {x : jX} {d : Nat} {M : jM} {P : jM → Int32 → Prop} {a1 : Int32} 
    (h : (a1 = 0 → ∃ j1, j1 < 2 ∧ a1 = nI j1 ∧ (P M (M.1 76 j1))) ∧ (¬ a1 = 0 → (¬ a1 = (1 : Int32) → P M (-1 : Int32)) ∧ (a1 = (1 : Int32) → ∃ j2, j2 < 2 ∧ a1 = nI j2 ∧ (P M (M.1 76 j2))))) :
    JC x jtbC mX11_fault d [.ref (x.2.2.2 0), .int a1] M (jI P) := by
  refine JC.of rfl (Nat.le_of_ble_eq_true rfl) ?_
  refine jw_ls (ls' := [(0, .ref (x.2.2.2 0)), (1, .int a1)]) rfl ?_
  refine jw_iload_n (pc := 0) (j := 1) dX11_fault_0 rfl rfl ?_
  refine jw_if_eq (pc := 1) (tgt := 9) dX11_fault_1 (by decide) (fun c => ?_) (fun c => ?_)
  · replace h := h.1 c
    refine jw_aload_n (pc := 9) (j := 0) dX11_fault_9 rfl rfl ?_
    refine jw_getR (pc := 10) (r := 76) dX11_fault_10 sC_0 fl_X11_79 (by decide) rfl rfl ?_
    refine jw_iload_n (pc := 13) (j := 1) dX11_fault_13 rfl rfl ?_
    obtain ⟨j1, hj1, ej1, h⟩ := h
    refine jw_iald (pc := 14) (j := j1) dX11_fault_14 sC_76 hj1 ej1 (by decide) ?_
    refine jw_goto (pc := 15) (tgt := 19) dX11_fault_15 (by decide) ?_
    exact jw_iret (pc := 19) dX11_fault_19 rfl ⟨_, rfl, h⟩
  · replace h := h.2 c
    refine jw_iload_n (pc := 4) (j := 1) dX11_fault_4 rfl rfl ?_
    refine jw_iconst (pc := 5) (v := 1) dX11_fault_5 rfl ?_
    refine jw_icmp_ne (pc := 6) (tgt := 18) dX11_fault_6 (by decide) (fun c => ?_) (fun c => ?_)
    · replace h := h.1 c
      refine jw_iconst (pc := 18) (v := (-1)) dX11_fault_18 rfl ?_
      exact jw_iret (pc := 19) dX11_fault_19 rfl ⟨_, rfl, h⟩
    · replace h := h.2 c
      refine jw_aload_n (pc := 9) (j := 0) dX11_fault_9 rfl rfl ?_
      refine jw_getR (pc := 10) (r := 76) dX11_fault_10 sC_0 fl_X11_79 (by decide) rfl rfl ?_
      refine jw_iload_n (pc := 13) (j := 1) dX11_fault_13 rfl rfl ?_
      obtain ⟨j2, hj2, ej2, h⟩ := h
      refine jw_iald (pc := 14) (j := j2) dX11_fault_14 sC_76 hj2 ej2 (by decide) ?_
      refine jw_goto (pc := 15) (tgt := 19) dX11_fault_15 (by decide) ?_
      exact jw_iret (pc := 19) dX11_fault_19 rfl ⟨_, rfl, h⟩
set_option maxRecDepth 20000 in
theorem b_X11_many {x : jX} {d : Nat} {M : jM} {P : jM → Int32 → Prop} {a1 : Int32} 
    (h : (a1 = 0 → JC x jtbC mX11_answered d [.ref (x.2.2.2 0), .int (M.1 30 0)] M (jI fun M1 r1 => P M1 r1)) ∧ (¬ a1 = 0 → (a1 = 1 → JC x jtbC mX11_answered d [.ref (x.2.2.2 0), .int (M.1 30 1)] M (jI fun M2 r2 => P M2 r2)) ∧ (¬ a1 = 1 → (a1 = 2 → JC x jtbC mX11_answered d [.ref (x.2.2.2 0), .int (M.1 30 3)] M (jI fun M3 r3 => P M3 r3)) ∧ (¬ a1 = 2 → JC x jtbC mX11_refused d [.ref (x.2.2.2 0), .int (5 : Int32)] M (jI fun M4 r4 => P M4 r4))))) :
    JC x jtbC mX11_many (d + 1) [.ref (x.2.2.2 0), .int a1] M (jI P) := by
  refine JC.of rfl (Nat.le_of_ble_eq_true rfl) ?_
  refine jw_ls (ls' := [(0, .ref (x.2.2.2 0)), (1, .int a1)]) rfl ?_
  refine jw_iload_n (pc := 0) (j := 1) dX11_many_0 rfl rfl ?_
  refine (Decidable.em (a1 = 0)).elim (fun c0 => ?_) (fun c0 => ?_)
  · replace h := h.1 c0
    refine jw_tableIn (pc := 1) (tgt := 28) dX11_many_1 (by rw [c0]; decide) (by rw [c0]; decide) (by rw [c0]; rfl) (by decide) ?_
    refine jw_aload_n (pc := 28) (j := 0) dX11_many_28 rfl rfl ?_
    refine jw_aload_n (pc := 29) (j := 0) dX11_many_29 rfl rfl ?_
    refine jw_getR (pc := 30) (r := 29) dX11_many_30 sC_0 fl_X11_36 (by decide) rfl rfl ?_
    refine jw_getR (pc := 33) (r := 30) dX11_many_33 sC_29 fl_X11_157 (by decide) rfl rfl ?_
    refine jw_getI (pc := 36) dX11_many_36 sC_30 fl_X11_188 (by decide) rfl ?_
    refine jw_callV (pc := 39) (m2 := mX11_answered) (As := [.int (M.1 30 0)]) (st := []) dX11_many_39 sC_0 (by decide) rfl rfl gm_X11_answered ml_X11_165 rfl (Nat.le_of_ble_eq_true rfl) (JC.mono h ?_)
    clear h
    rintro M1 _ ⟨r1, rfl, h⟩
    refine jw_st (st' := [.int r1]) rfl ?_
    exact jw_iret (pc := 42) dX11_many_42 rfl ⟨_, rfl, h⟩
  · replace h := h.2 c0
    refine (Decidable.em (a1 = 1)).elim (fun c1 => ?_) (fun c1 => ?_)
    · replace h := h.1 c1
      refine jw_tableIn (pc := 1) (tgt := 43) dX11_many_1 (by rw [c1]; decide) (by rw [c1]; decide) (by rw [c1]; rfl) (by decide) ?_
      refine jw_aload_n (pc := 43) (j := 0) dX11_many_43 rfl rfl ?_
      refine jw_aload_n (pc := 44) (j := 0) dX11_many_44 rfl rfl ?_
      refine jw_getR (pc := 45) (r := 29) dX11_many_45 sC_0 fl_X11_36 (by decide) rfl rfl ?_
      refine jw_getR (pc := 48) (r := 30) dX11_many_48 sC_29 fl_X11_157 (by decide) rfl rfl ?_
      refine jw_getI (pc := 51) dX11_many_51 sC_30 fl_X11_191 (by decide) rfl ?_
      refine jw_callV (pc := 54) (m2 := mX11_answered) (As := [.int (M.1 30 1)]) (st := []) dX11_many_54 sC_0 (by decide) rfl rfl gm_X11_answered ml_X11_165 rfl (Nat.le_of_ble_eq_true rfl) (JC.mono h ?_)
      clear h
      rintro M2 _ ⟨r2, rfl, h⟩
      refine jw_st (st' := [.int r2]) rfl ?_
      exact jw_iret (pc := 57) dX11_many_57 rfl ⟨_, rfl, h⟩
    · replace h := h.2 c1
      refine (Decidable.em (a1 = 2)).elim (fun c2 => ?_) (fun c2 => ?_)
      · replace h := h.1 c2
        refine jw_tableIn (pc := 1) (tgt := 58) dX11_many_1 (by rw [c2]; decide) (by rw [c2]; decide) (by rw [c2]; rfl) (by decide) ?_
        refine jw_aload_n (pc := 58) (j := 0) dX11_many_58 rfl rfl ?_
        refine jw_aload_n (pc := 59) (j := 0) dX11_many_59 rfl rfl ?_
        refine jw_getR (pc := 60) (r := 29) dX11_many_60 sC_0 fl_X11_36 (by decide) rfl rfl ?_
        refine jw_getR (pc := 63) (r := 30) dX11_many_63 sC_29 fl_X11_157 (by decide) rfl rfl ?_
        refine jw_getI (pc := 66) dX11_many_66 sC_30 fl_X11_194 (by decide) rfl ?_
        refine jw_callV (pc := 69) (m2 := mX11_answered) (As := [.int (M.1 30 3)]) (st := []) dX11_many_69 sC_0 (by decide) rfl rfl gm_X11_answered ml_X11_165 rfl (Nat.le_of_ble_eq_true rfl) (JC.mono h ?_)
        clear h
        rintro M3 _ ⟨r3, rfl, h⟩
        refine jw_st (st' := [.int r3]) rfl ?_
        exact jw_iret (pc := 72) dX11_many_72 rfl ⟨_, rfl, h⟩
      · replace h := h.2 c2
        have e0 := jne_i (k := 0) (n := 0) c0 (by decide)
        have e1 := jne_i (k := 1) (n := 1) c1 (by decide)
        have e2 := jne_i (k := 2) (n := 2) c2 (by decide)
        refine jw_tableOut (pc := 1) (tgt := 73) dX11_many_1 (by omega) (by decide) ?_
        refine jw_aload_n (pc := 73) (j := 0) dX11_many_73 rfl rfl ?_
        refine jw_iconst (pc := 74) (v := 5) dX11_many_74 rfl ?_
        refine jw_callV (pc := 75) (m2 := mX11_refused) (As := [.int (5 : Int32)]) (st := []) dX11_many_75 sC_0 (by decide) rfl rfl gm_X11_refused ml_X11_106 rfl (Nat.le_of_ble_eq_true rfl) (JC.mono h ?_)
        clear h
        rintro M4 _ ⟨r4, rfl, h⟩
        refine jw_st (st' := [.int r4]) rfl ?_
        exact jw_iret (pc := 78) dX11_many_78 rfl ⟨_, rfl, h⟩
set_option maxRecDepth 20000 in
theorem b_X11_cell {x : jX} {d : Nat} {M : jM} {P : jM → Int32 → Prop} {a1 : Int32} {a2 : Int32} 
    (h : JC x jtbC mX5_hasCell d [.ref (x.2.2.2 30), .int a1] M (jZ fun M1 b1 => (b1 = true → (a2 = 0 → ∃ j1, j1 < 25 ∧ a1 = nI j1 ∧ (JC x jtbC mX11_answered d [.ref (x.2.2.2 0), .int (M1.1 31 j1)] M1 (jI fun M2 r1 => P M2 r1))) ∧ (¬ a2 = 0 → (a2 = 1 → ∃ j2, j2 < 25 ∧ a1 = nI j2 ∧ (JC x jtbC mX11_answered d [.ref (x.2.2.2 0), .int (M1.1 32 j2)] M1 (jI fun M3 r2 => P M3 r2))) ∧ (¬ a2 = 1 → (a2 = 2 → ∃ j3, j3 < 25 ∧ a1 = nI j3 ∧ (JC x jtbC mX11_answered d [.ref (x.2.2.2 0), .int (M1.1 33 j3)] M1 (jI fun M4 r3 => P M4 r3))) ∧ (¬ a2 = 2 → JC x jtbC mX11_refused d [.ref (x.2.2.2 0), .int (5 : Int32)] M1 (jI fun M5 r4 => P M5 r4))))) ∧ (b1 = false → JC x jtbC mX11_refused d [.ref (x.2.2.2 0), .int (2 : Int32)] M1 (jI fun M6 r5 => P M6 r5)))) :
    JC x jtbC mX11_cell (d + 1) [.ref (x.2.2.2 0), .int a1, .int a2] M (jI P) := by
  refine JC.of rfl (Nat.le_of_ble_eq_true rfl) ?_
  refine jw_ls (ls' := [(0, .ref (x.2.2.2 0)), (1, .int a1), (2, .int a2)]) rfl ?_
  refine jw_aload_n (pc := 0) (j := 0) dX11_cell_0 rfl rfl ?_
  refine jw_getR (pc := 1) (r := 29) dX11_cell_1 sC_0 fl_X11_36 (by decide) rfl rfl ?_
  refine jw_getR (pc := 4) (r := 30) dX11_cell_4 sC_29 fl_X11_157 (by decide) rfl rfl ?_
  refine jw_astore_n (pc := 7) (ls' := [(3, .ref (x.2.2.2 30)), (0, .ref (x.2.2.2 0)), (1, .int a1), (2, .int a2)]) dX11_cell_7 rfl (by decide) rfl ?_
  refine jw_aload_n (pc := 8) (j := 0) dX11_cell_8 rfl rfl ?_
  refine jw_iload_n (pc := 9) (j := 2) dX11_cell_9 rfl rfl ?_
  refine jw_callV (pc := 10) (m2 := mX5_hasCell) (As := [.int a1]) (st := []) dX11_cell_10 sC_30 (by decide) rfl rfl gm_X5_hasCell ml_X11_197 rfl (Nat.le_of_ble_eq_true rfl) (JC.mono h ?_)
  clear h
  rintro M1 _ ⟨b1, rfl, h⟩
  refine jw_st (st' := [.int (jb b1)]) rfl ?_
  refine jw_if_ne (pc := 13) (tgt := 22) dX11_cell_13 (by decide) (fun c => ?_) (fun c => ?_)
  · replace h := h.1 (jb_ne c)
    refine jw_iload_n (pc := 22) (j := 3) dX11_cell_22 rfl rfl ?_
    refine (Decidable.em (a2 = 0)).elim (fun c0 => ?_) (fun c0 => ?_)
    · replace h := h.1 c0
      refine jw_tableIn (pc := 23) (tgt := 48) dX11_cell_23 (by rw [c0]; decide) (by rw [c0]; decide) (by rw [c0]; rfl) (by decide) ?_
      refine jw_aload_n (pc := 48) (j := 1) dX11_cell_48 rfl rfl ?_
      refine jw_aload_n (pc := 49) (j := 0) dX11_cell_49 rfl rfl ?_
      refine jw_getR (pc := 50) (r := 31) dX11_cell_50 sC_30 fl_X11_200 (by decide) rfl rfl ?_
      refine jw_iload_n (pc := 53) (j := 2) dX11_cell_53 rfl rfl ?_
      obtain ⟨j1, hj1, ej1, h⟩ := h
      refine jw_iald (pc := 54) (j := j1) dX11_cell_54 sC_31 hj1 ej1 (by decide) ?_
      refine jw_callV (pc := 55) (m2 := mX11_answered) (As := [.int (M1.1 31 j1)]) (st := []) dX11_cell_55 sC_0 (by decide) rfl rfl gm_X11_answered ml_X11_165 rfl (Nat.le_of_ble_eq_true rfl) (JC.mono h ?_)
      clear h
      rintro M2 _ ⟨r1, rfl, h⟩
      refine jw_st (st' := [.int r1]) rfl ?_
      exact jw_iret (pc := 58) dX11_cell_58 rfl ⟨_, rfl, h⟩
    · replace h := h.2 c0
      refine (Decidable.em (a2 = 1)).elim (fun c1 => ?_) (fun c1 => ?_)
      · replace h := h.1 c1
        refine jw_tableIn (pc := 23) (tgt := 59) dX11_cell_23 (by rw [c1]; decide) (by rw [c1]; decide) (by rw [c1]; rfl) (by decide) ?_
        refine jw_aload_n (pc := 59) (j := 1) dX11_cell_59 rfl rfl ?_
        refine jw_aload_n (pc := 60) (j := 0) dX11_cell_60 rfl rfl ?_
        refine jw_getR (pc := 61) (r := 32) dX11_cell_61 sC_30 fl_X11_203 (by decide) rfl rfl ?_
        refine jw_iload_n (pc := 64) (j := 2) dX11_cell_64 rfl rfl ?_
        obtain ⟨j2, hj2, ej2, h⟩ := h
        refine jw_iald (pc := 65) (j := j2) dX11_cell_65 sC_32 hj2 ej2 (by decide) ?_
        refine jw_callV (pc := 66) (m2 := mX11_answered) (As := [.int (M1.1 32 j2)]) (st := []) dX11_cell_66 sC_0 (by decide) rfl rfl gm_X11_answered ml_X11_165 rfl (Nat.le_of_ble_eq_true rfl) (JC.mono h ?_)
        clear h
        rintro M3 _ ⟨r2, rfl, h⟩
        refine jw_st (st' := [.int r2]) rfl ?_
        exact jw_iret (pc := 69) dX11_cell_69 rfl ⟨_, rfl, h⟩
      · replace h := h.2 c1
        refine (Decidable.em (a2 = 2)).elim (fun c2 => ?_) (fun c2 => ?_)
        · replace h := h.1 c2
          refine jw_tableIn (pc := 23) (tgt := 70) dX11_cell_23 (by rw [c2]; decide) (by rw [c2]; decide) (by rw [c2]; rfl) (by decide) ?_
          refine jw_aload_n (pc := 70) (j := 1) dX11_cell_70 rfl rfl ?_
          refine jw_aload_n (pc := 71) (j := 0) dX11_cell_71 rfl rfl ?_
          refine jw_getR (pc := 72) (r := 33) dX11_cell_72 sC_30 fl_X11_206 (by decide) rfl rfl ?_
          refine jw_iload_n (pc := 75) (j := 2) dX11_cell_75 rfl rfl ?_
          obtain ⟨j3, hj3, ej3, h⟩ := h
          refine jw_iald (pc := 76) (j := j3) dX11_cell_76 sC_33 hj3 ej3 (by decide) ?_
          refine jw_callV (pc := 77) (m2 := mX11_answered) (As := [.int (M1.1 33 j3)]) (st := []) dX11_cell_77 sC_0 (by decide) rfl rfl gm_X11_answered ml_X11_165 rfl (Nat.le_of_ble_eq_true rfl) (JC.mono h ?_)
          clear h
          rintro M4 _ ⟨r3, rfl, h⟩
          refine jw_st (st' := [.int r3]) rfl ?_
          exact jw_iret (pc := 80) dX11_cell_80 rfl ⟨_, rfl, h⟩
        · replace h := h.2 c2
          have e0 := jne_i (k := 0) (n := 0) c0 (by decide)
          have e1 := jne_i (k := 1) (n := 1) c1 (by decide)
          have e2 := jne_i (k := 2) (n := 2) c2 (by decide)
          refine jw_tableOut (pc := 23) (tgt := 81) dX11_cell_23 (by omega) (by decide) ?_
          refine jw_aload_n (pc := 81) (j := 1) dX11_cell_81 rfl rfl ?_
          refine jw_iconst (pc := 82) (v := 5) dX11_cell_82 rfl ?_
          refine jw_callV (pc := 83) (m2 := mX11_refused) (As := [.int (5 : Int32)]) (st := []) dX11_cell_83 sC_0 (by decide) rfl rfl gm_X11_refused ml_X11_106 rfl (Nat.le_of_ble_eq_true rfl) (JC.mono h ?_)
          clear h
          rintro M5 _ ⟨r4, rfl, h⟩
          refine jw_st (st' := [.int r4]) rfl ?_
          exact jw_iret (pc := 86) dX11_cell_86 rfl ⟨_, rfl, h⟩
  · replace h := h.2 ((jb_0 _).mp c)
    refine jw_aload_n (pc := 16) (j := 1) dX11_cell_16 rfl rfl ?_
    refine jw_iconst (pc := 17) (v := 2) dX11_cell_17 rfl ?_
    refine jw_callV (pc := 18) (m2 := mX11_refused) (As := [.int (2 : Int32)]) (st := []) dX11_cell_18 sC_0 (by decide) rfl rfl gm_X11_refused ml_X11_106 rfl (Nat.le_of_ble_eq_true rfl) (JC.mono h ?_)
    clear h
    rintro M6 _ ⟨r5, rfl, h⟩
    refine jw_st (st' := [.int r5]) rfl ?_
    exact jw_iret (pc := 21) dX11_cell_21 rfl ⟨_, rfl, h⟩
set_option maxRecDepth 20000 in
theorem b_X11_village {x : jX} {d : Nat} {M : jM} {P : jM → Int32 → Prop} {a1 : Int32} {a2 : Int32} 
    (h : JC x jtbC mX5_hasVillage d [.ref (x.2.2.2 30), .int a1] M (jZ fun M1 b1 => (b1 = true → (a2 = 0 → ∃ j1, j1 < 6 ∧ a1 = nI j1 ∧ (JC x jtbC mX11_answered d [.ref (x.2.2.2 0), .int (M1.1 35 j1)] M1 (jI fun M2 r1 => P M2 r1))) ∧ (¬ a2 = 0 → (a2 = 1 → JC x jtbC mX5_stripsOf d [.ref (x.2.2.2 30), .int a1] M1 (jI fun M3 r2 => JC x jtbC mX11_answered d [.ref (x.2.2.2 0), .int r2] M3 (jI fun M4 r3 => P M4 r3))) ∧ (¬ a2 = 1 → (a2 = 2 → JC x jtbC mX5_hasSky d [.ref (x.2.2.2 30), .int a1] M1 (jZ fun M5 b2 => (b2 = false → JC x jtbC mX11_answered d [.ref (x.2.2.2 0), .int (0 : Int32)] M5 (jI fun M6 r4 => P M6 r4)) ∧ (b2 = true → JC x jtbC mX11_answered d [.ref (x.2.2.2 0), .int (1 : Int32)] M5 (jI fun M7 r5 => P M7 r5)))) ∧ (¬ a2 = 2 → JC x jtbC mX11_refused d [.ref (x.2.2.2 0), .int (5 : Int32)] M1 (jI fun M8 r6 => P M8 r6))))) ∧ (b1 = false → JC x jtbC mX11_refused d [.ref (x.2.2.2 0), .int (2 : Int32)] M1 (jI fun M9 r7 => P M9 r7)))) :
    JC x jtbC mX11_village (d + 1) [.ref (x.2.2.2 0), .int a1, .int a2] M (jI P) := by
  refine JC.of rfl (Nat.le_of_ble_eq_true rfl) ?_
  refine jw_ls (ls' := [(0, .ref (x.2.2.2 0)), (1, .int a1), (2, .int a2)]) rfl ?_
  refine jw_aload_n (pc := 0) (j := 0) dX11_village_0 rfl rfl ?_
  refine jw_getR (pc := 1) (r := 29) dX11_village_1 sC_0 fl_X11_36 (by decide) rfl rfl ?_
  refine jw_getR (pc := 4) (r := 30) dX11_village_4 sC_29 fl_X11_157 (by decide) rfl rfl ?_
  refine jw_astore_n (pc := 7) (ls' := [(3, .ref (x.2.2.2 30)), (0, .ref (x.2.2.2 0)), (1, .int a1), (2, .int a2)]) dX11_village_7 rfl (by decide) rfl ?_
  refine jw_aload_n (pc := 8) (j := 0) dX11_village_8 rfl rfl ?_
  refine jw_iload_n (pc := 9) (j := 2) dX11_village_9 rfl rfl ?_
  refine jw_callV (pc := 10) (m2 := mX5_hasVillage) (As := [.int a1]) (st := []) dX11_village_10 sC_30 (by decide) rfl rfl gm_X5_hasVillage ml_X11_209 rfl (Nat.le_of_ble_eq_true rfl) (JC.mono h ?_)
  clear h
  rintro M1 _ ⟨b1, rfl, h⟩
  refine jw_st (st' := [.int (jb b1)]) rfl ?_
  refine jw_if_ne (pc := 13) (tgt := 22) dX11_village_13 (by decide) (fun c => ?_) (fun c => ?_)
  · replace h := h.1 (jb_ne c)
    refine jw_iload_n (pc := 22) (j := 3) dX11_village_22 rfl rfl ?_
    refine (Decidable.em (a2 = 0)).elim (fun c0 => ?_) (fun c0 => ?_)
    · replace h := h.1 c0
      refine jw_tableIn (pc := 23) (tgt := 48) dX11_village_23 (by rw [c0]; decide) (by rw [c0]; decide) (by rw [c0]; rfl) (by decide) ?_
      refine jw_aload_n (pc := 48) (j := 1) dX11_village_48 rfl rfl ?_
      refine jw_aload_n (pc := 49) (j := 0) dX11_village_49 rfl rfl ?_
      refine jw_getR (pc := 50) (r := 35) dX11_village_50 sC_30 fl_X11_212 (by decide) rfl rfl ?_
      refine jw_iload_n (pc := 53) (j := 2) dX11_village_53 rfl rfl ?_
      obtain ⟨j1, hj1, ej1, h⟩ := h
      refine jw_iald (pc := 54) (j := j1) dX11_village_54 sC_35 hj1 ej1 (by decide) ?_
      refine jw_callV (pc := 55) (m2 := mX11_answered) (As := [.int (M1.1 35 j1)]) (st := []) dX11_village_55 sC_0 (by decide) rfl rfl gm_X11_answered ml_X11_165 rfl (Nat.le_of_ble_eq_true rfl) (JC.mono h ?_)
      clear h
      rintro M2 _ ⟨r1, rfl, h⟩
      refine jw_st (st' := [.int r1]) rfl ?_
      exact jw_iret (pc := 58) dX11_village_58 rfl ⟨_, rfl, h⟩
    · replace h := h.2 c0
      refine (Decidable.em (a2 = 1)).elim (fun c1 => ?_) (fun c1 => ?_)
      · replace h := h.1 c1
        refine jw_tableIn (pc := 23) (tgt := 59) dX11_village_23 (by rw [c1]; decide) (by rw [c1]; decide) (by rw [c1]; rfl) (by decide) ?_
        refine jw_aload_n (pc := 59) (j := 1) dX11_village_59 rfl rfl ?_
        refine jw_aload_n (pc := 60) (j := 0) dX11_village_60 rfl rfl ?_
        refine jw_iload_n (pc := 61) (j := 2) dX11_village_61 rfl rfl ?_
        refine jw_callV (pc := 62) (m2 := mX5_stripsOf) (As := [.int a1]) (st := [.ref (x.2.2.2 0)]) dX11_village_62 sC_30 (by decide) rfl rfl gm_X5_stripsOf ml_X11_215 rfl (Nat.le_of_ble_eq_true rfl) (JC.mono h ?_)
        clear h
        rintro M3 _ ⟨r2, rfl, h⟩
        refine jw_st (st' := [.int r2, .ref (x.2.2.2 0)]) rfl ?_
        refine jw_callV (pc := 65) (m2 := mX11_answered) (As := [.int r2]) (st := []) dX11_village_65 sC_0 (by decide) rfl rfl gm_X11_answered ml_X11_165 rfl (Nat.le_of_ble_eq_true rfl) (JC.mono h ?_)
        clear h
        rintro M4 _ ⟨r3, rfl, h⟩
        refine jw_st (st' := [.int r3]) rfl ?_
        exact jw_iret (pc := 68) dX11_village_68 rfl ⟨_, rfl, h⟩
      · replace h := h.2 c1
        refine (Decidable.em (a2 = 2)).elim (fun c2 => ?_) (fun c2 => ?_)
        · replace h := h.1 c2
          refine jw_tableIn (pc := 23) (tgt := 69) dX11_village_23 (by rw [c2]; decide) (by rw [c2]; decide) (by rw [c2]; rfl) (by decide) ?_
          refine jw_aload_n (pc := 69) (j := 1) dX11_village_69 rfl rfl ?_
          refine jw_aload_n (pc := 70) (j := 0) dX11_village_70 rfl rfl ?_
          refine jw_iload_n (pc := 71) (j := 2) dX11_village_71 rfl rfl ?_
          refine jw_callV (pc := 72) (m2 := mX5_hasSky) (As := [.int a1]) (st := [.ref (x.2.2.2 0)]) dX11_village_72 sC_30 (by decide) rfl rfl gm_X5_hasSky ml_X11_218 rfl (Nat.le_of_ble_eq_true rfl) (JC.mono h ?_)
          clear h
          rintro M5 _ ⟨b2, rfl, h⟩
          refine jw_st (st' := [.int (jb b2), .ref (x.2.2.2 0)]) rfl ?_
          refine jw_if_eq (pc := 75) (tgt := 82) dX11_village_75 (by decide) (fun c => ?_) (fun c => ?_)
          · replace h := h.1 ((jb_0 _).mp c)
            refine jw_iconst (pc := 82) (v := 0) dX11_village_82 rfl ?_
            refine jw_callV (pc := 83) (m2 := mX11_answered) (As := [.int (0 : Int32)]) (st := []) dX11_village_83 sC_0 (by decide) rfl rfl gm_X11_answered ml_X11_165 rfl (Nat.le_of_ble_eq_true rfl) (JC.mono h ?_)
            clear h
            rintro M6 _ ⟨r4, rfl, h⟩
            refine jw_st (st' := [.int r4]) rfl ?_
            exact jw_iret (pc := 86) dX11_village_86 rfl ⟨_, rfl, h⟩
          · replace h := h.2 (jb_ne c)
            refine jw_iconst (pc := 78) (v := 1) dX11_village_78 rfl ?_
            refine jw_goto (pc := 79) (tgt := 83) dX11_village_79 (by decide) ?_
            refine jw_callV (pc := 83) (m2 := mX11_answered) (As := [.int (1 : Int32)]) (st := []) dX11_village_83 sC_0 (by decide) rfl rfl gm_X11_answered ml_X11_165 rfl (Nat.le_of_ble_eq_true rfl) (JC.mono h ?_)
            clear h
            rintro M7 _ ⟨r5, rfl, h⟩
            refine jw_st (st' := [.int r5]) rfl ?_
            exact jw_iret (pc := 86) dX11_village_86 rfl ⟨_, rfl, h⟩
        · replace h := h.2 c2
          have e0 := jne_i (k := 0) (n := 0) c0 (by decide)
          have e1 := jne_i (k := 1) (n := 1) c1 (by decide)
          have e2 := jne_i (k := 2) (n := 2) c2 (by decide)
          refine jw_tableOut (pc := 23) (tgt := 87) dX11_village_23 (by omega) (by decide) ?_
          refine jw_aload_n (pc := 87) (j := 1) dX11_village_87 rfl rfl ?_
          refine jw_iconst (pc := 88) (v := 5) dX11_village_88 rfl ?_
          refine jw_callV (pc := 89) (m2 := mX11_refused) (As := [.int (5 : Int32)]) (st := []) dX11_village_89 sC_0 (by decide) rfl rfl gm_X11_refused ml_X11_106 rfl (Nat.le_of_ble_eq_true rfl) (JC.mono h ?_)
          clear h
          rintro M8 _ ⟨r6, rfl, h⟩
          refine jw_st (st' := [.int r6]) rfl ?_
          exact jw_iret (pc := 92) dX11_village_92 rfl ⟨_, rfl, h⟩
  · replace h := h.2 ((jb_0 _).mp c)
    refine jw_aload_n (pc := 16) (j := 1) dX11_village_16 rfl rfl ?_
    refine jw_iconst (pc := 17) (v := 2) dX11_village_17 rfl ?_
    refine jw_callV (pc := 18) (m2 := mX11_refused) (As := [.int (2 : Int32)]) (st := []) dX11_village_18 sC_0 (by decide) rfl rfl gm_X11_refused ml_X11_106 rfl (Nat.le_of_ble_eq_true rfl) (JC.mono h ?_)
    clear h
    rintro M9 _ ⟨r7, rfl, h⟩
    refine jw_st (st' := [.int r7]) rfl ?_
    exact jw_iret (pc := 21) dX11_village_21 rfl ⟨_, rfl, h⟩
set_option maxRecDepth 20000 in
theorem b_X11_promised {x : jX} {d : Nat} {M : jM} {P : jM → Int32 → Prop} {a1 : Int32} {a2 : Int32} 
    (h : JC x jtbC mX5_hasStrip d [.ref (x.2.2.2 30), .int a1, .int a2] M (jZ fun M1 b1 => (b1 = true → JC x jtbC mX5_hasSky d [.ref (x.2.2.2 30), .int a1] M1 (jZ fun M2 b2 => (b2 = true → ∃ j1, j1 < 54 ∧ (a1 * (9 : Int32)) + a2 = nI j1 ∧ (JC x jtbC mX11_answered d [.ref (x.2.2.2 0), .int (M2.1 36 j1)] M2 (jI fun M3 r1 => P M3 r1))) ∧ (b2 = false → JC x jtbC mX11_refused d [.ref (x.2.2.2 0), .int (8 : Int32)] M2 (jI fun M4 r2 => P M4 r2)))) ∧ (b1 = false → JC x jtbC mX11_refused d [.ref (x.2.2.2 0), .int (2 : Int32)] M1 (jI fun M5 r3 => P M5 r3)))) :
    JC x jtbC mX11_promised (d + 1) [.ref (x.2.2.2 0), .int a1, .int a2] M (jI P) := by
  refine JC.of rfl (Nat.le_of_ble_eq_true rfl) ?_
  refine jw_ls (ls' := [(0, .ref (x.2.2.2 0)), (1, .int a1), (2, .int a2)]) rfl ?_
  refine jw_aload_n (pc := 0) (j := 0) dX11_promised_0 rfl rfl ?_
  refine jw_getR (pc := 1) (r := 29) dX11_promised_1 sC_0 fl_X11_36 (by decide) rfl rfl ?_
  refine jw_getR (pc := 4) (r := 30) dX11_promised_4 sC_29 fl_X11_157 (by decide) rfl rfl ?_
  refine jw_astore_n (pc := 7) (ls' := [(3, .ref (x.2.2.2 30)), (0, .ref (x.2.2.2 0)), (1, .int a1), (2, .int a2)]) dX11_promised_7 rfl (by decide) rfl ?_
  refine jw_aload_n (pc := 8) (j := 0) dX11_promised_8 rfl rfl ?_
  refine jw_iload_n (pc := 9) (j := 2) dX11_promised_9 rfl rfl ?_
  refine jw_iload_n (pc := 10) (j := 3) dX11_promised_10 rfl rfl ?_
  refine jw_callV (pc := 11) (m2 := mX5_hasStrip) (As := [.int a1, .int a2]) (st := []) dX11_promised_11 sC_30 (by decide) rfl rfl gm_X5_hasStrip ml_X11_221 rfl (Nat.le_of_ble_eq_true rfl) (JC.mono h ?_)
  clear h
  rintro M1 _ ⟨b1, rfl, h⟩
  refine jw_st (st' := [.int (jb b1)]) rfl ?_
  refine jw_if_ne (pc := 14) (tgt := 23) dX11_promised_14 (by decide) (fun c => ?_) (fun c => ?_)
  · replace h := h.1 (jb_ne c)
    refine jw_aload_n (pc := 23) (j := 0) dX11_promised_23 rfl rfl ?_
    refine jw_iload_n (pc := 24) (j := 2) dX11_promised_24 rfl rfl ?_
    refine jw_callV (pc := 25) (m2 := mX5_hasSky) (As := [.int a1]) (st := []) dX11_promised_25 sC_30 (by decide) rfl rfl gm_X5_hasSky ml_X11_218 rfl (Nat.le_of_ble_eq_true rfl) (JC.mono h ?_)
    clear h
    rintro M2 _ ⟨b2, rfl, h⟩
    refine jw_st (st' := [.int (jb b2)]) rfl ?_
    refine jw_if_ne (pc := 28) (tgt := 38) dX11_promised_28 (by decide) (fun c => ?_) (fun c => ?_)
    · replace h := h.1 (jb_ne c)
      refine jw_aload_n (pc := 38) (j := 1) dX11_promised_38 rfl rfl ?_
      refine jw_aload_n (pc := 39) (j := 0) dX11_promised_39 rfl rfl ?_
      refine jw_getR (pc := 40) (r := 36) dX11_promised_40 sC_30 fl_X11_224 (by decide) rfl rfl ?_
      refine jw_iload_n (pc := 43) (j := 2) dX11_promised_43 rfl rfl ?_
      refine jw_bipush (pc := 44) (v := 9) dX11_promised_44 rfl ?_
      refine jw_imul (pc := 46) dX11_promised_46 ?_
      refine jw_iload_n (pc := 47) (j := 3) dX11_promised_47 rfl rfl ?_
      refine jw_iadd (pc := 48) dX11_promised_48 ?_
      obtain ⟨j1, hj1, ej1, h⟩ := h
      refine jw_iald (pc := 49) (j := j1) dX11_promised_49 sC_36 hj1 ej1 (by decide) ?_
      refine jw_callV (pc := 50) (m2 := mX11_answered) (As := [.int (M2.1 36 j1)]) (st := []) dX11_promised_50 sC_0 (by decide) rfl rfl gm_X11_answered ml_X11_165 rfl (Nat.le_of_ble_eq_true rfl) (JC.mono h ?_)
      clear h
      rintro M3 _ ⟨r1, rfl, h⟩
      refine jw_st (st' := [.int r1]) rfl ?_
      exact jw_iret (pc := 53) dX11_promised_53 rfl ⟨_, rfl, h⟩
    · replace h := h.2 ((jb_0 _).mp c)
      refine jw_aload_n (pc := 31) (j := 1) dX11_promised_31 rfl rfl ?_
      refine jw_bipush (pc := 32) (v := 8) dX11_promised_32 rfl ?_
      refine jw_callV (pc := 34) (m2 := mX11_refused) (As := [.int (8 : Int32)]) (st := []) dX11_promised_34 sC_0 (by decide) rfl rfl gm_X11_refused ml_X11_106 rfl (Nat.le_of_ble_eq_true rfl) (JC.mono h ?_)
      clear h
      rintro M4 _ ⟨r2, rfl, h⟩
      refine jw_st (st' := [.int r2]) rfl ?_
      exact jw_iret (pc := 37) dX11_promised_37 rfl ⟨_, rfl, h⟩
  · replace h := h.2 ((jb_0 _).mp c)
    refine jw_aload_n (pc := 17) (j := 1) dX11_promised_17 rfl rfl ?_
    refine jw_iconst (pc := 18) (v := 2) dX11_promised_18 rfl ?_
    refine jw_callV (pc := 19) (m2 := mX11_refused) (As := [.int (2 : Int32)]) (st := []) dX11_promised_19 sC_0 (by decide) rfl rfl gm_X11_refused ml_X11_106 rfl (Nat.le_of_ble_eq_true rfl) (JC.mono h ?_)
    clear h
    rintro M5 _ ⟨r3, rfl, h⟩
    refine jw_st (st' := [.int r3]) rfl ?_
    exact jw_iret (pc := 22) dX11_promised_22 rfl ⟨_, rfl, h⟩
set_option maxRecDepth 20000 in
theorem b_X11_strip {x : jX} {d : Nat} {M : jM} {P : jM → Int32 → Prop} {a1 : Int32} {a2 : Int32} 
    (h : (a1 < 0 → JC x jtbC mX11_refused d [.ref (x.2.2.2 0), .int (2 : Int32)] M (jI fun M1 r1 => P M1 r1)) ∧ (¬ a1 < 0 → ((8 : Int32) ≤ a1 → JC x jtbC mX11_refused d [.ref (x.2.2.2 0), .int (2 : Int32)] M (jI fun M2 r2 => P M2 r2)) ∧ (¬ (8 : Int32) ≤ a1 → JC x jtbC mX5_hasCell d [.ref (x.2.2.2 30), .int a2] M (jZ fun M3 b1 => (b1 = true → JC x jtbC mX5_stripAt d [.ref (x.2.2.2 30), .int a1, .int a2] M3 (jI fun M4 r3 => JC x jtbC mX11_answered d [.ref (x.2.2.2 0), .int r3] M4 (jI fun M5 r4 => P M5 r4))) ∧ (b1 = false → JC x jtbC mX11_refused d [.ref (x.2.2.2 0), .int (2 : Int32)] M3 (jI fun M6 r5 => P M6 r5)))))) :
    JC x jtbC mX11_strip (d + 1) [.ref (x.2.2.2 0), .int a1, .int a2] M (jI P) := by
  refine JC.of rfl (Nat.le_of_ble_eq_true rfl) ?_
  refine jw_ls (ls' := [(0, .ref (x.2.2.2 0)), (1, .int a1), (2, .int a2)]) rfl ?_
  refine jw_iload_n (pc := 0) (j := 1) dX11_strip_0 rfl rfl ?_
  refine jw_if_lt (pc := 1) (tgt := 24) dX11_strip_1 (by decide) (fun c => ?_) (fun c => ?_)
  · replace h := h.1 c
    refine jw_aload_n (pc := 24) (j := 0) dX11_strip_24 rfl rfl ?_
    refine jw_iconst (pc := 25) (v := 2) dX11_strip_25 rfl ?_
    refine jw_callV (pc := 26) (m2 := mX11_refused) (As := [.int (2 : Int32)]) (st := []) dX11_strip_26 sC_0 (by decide) rfl rfl gm_X11_refused ml_X11_106 rfl (Nat.le_of_ble_eq_true rfl) (JC.mono h ?_)
    clear h
    rintro M1 _ ⟨r1, rfl, h⟩
    refine jw_st (st' := [.int r1]) rfl ?_
    exact jw_iret (pc := 29) dX11_strip_29 rfl ⟨_, rfl, h⟩
  · replace h := h.2 c
    refine jw_iload_n (pc := 4) (j := 1) dX11_strip_4 rfl rfl ?_
    refine jw_bipush (pc := 5) (v := 8) dX11_strip_5 rfl ?_
    refine jw_icmp_ge (pc := 7) (tgt := 24) dX11_strip_7 (by decide) (fun c => ?_) (fun c => ?_)
    · replace h := h.1 c
      refine jw_aload_n (pc := 24) (j := 0) dX11_strip_24 rfl rfl ?_
      refine jw_iconst (pc := 25) (v := 2) dX11_strip_25 rfl ?_
      refine jw_callV (pc := 26) (m2 := mX11_refused) (As := [.int (2 : Int32)]) (st := []) dX11_strip_26 sC_0 (by decide) rfl rfl gm_X11_refused ml_X11_106 rfl (Nat.le_of_ble_eq_true rfl) (JC.mono h ?_)
      clear h
      rintro M2 _ ⟨r2, rfl, h⟩
      refine jw_st (st' := [.int r2]) rfl ?_
      exact jw_iret (pc := 29) dX11_strip_29 rfl ⟨_, rfl, h⟩
    · replace h := h.2 c
      refine jw_aload_n (pc := 10) (j := 0) dX11_strip_10 rfl rfl ?_
      refine jw_getR (pc := 11) (r := 29) dX11_strip_11 sC_0 fl_X11_36 (by decide) rfl rfl ?_
      refine jw_getR (pc := 14) (r := 30) dX11_strip_14 sC_29 fl_X11_157 (by decide) rfl rfl ?_
      refine jw_iload_n (pc := 17) (j := 2) dX11_strip_17 rfl rfl ?_
      refine jw_callV (pc := 18) (m2 := mX5_hasCell) (As := [.int a2]) (st := []) dX11_strip_18 sC_30 (by decide) rfl rfl gm_X5_hasCell ml_X11_197 rfl (Nat.le_of_ble_eq_true rfl) (JC.mono h ?_)
      clear h
      rintro M3 _ ⟨b1, rfl, h⟩
      refine jw_st (st' := [.int (jb b1)]) rfl ?_
      refine jw_if_ne (pc := 21) (tgt := 30) dX11_strip_21 (by decide) (fun c => ?_) (fun c => ?_)
      · replace h := h.1 (jb_ne c)
        refine jw_aload_n (pc := 30) (j := 0) dX11_strip_30 rfl rfl ?_
        refine jw_aload_n (pc := 31) (j := 0) dX11_strip_31 rfl rfl ?_
        refine jw_getR (pc := 32) (r := 29) dX11_strip_32 sC_0 fl_X11_36 (by decide) rfl rfl ?_
        refine jw_getR (pc := 35) (r := 30) dX11_strip_35 sC_29 fl_X11_157 (by decide) rfl rfl ?_
        refine jw_iload_n (pc := 38) (j := 1) dX11_strip_38 rfl rfl ?_
        refine jw_iload_n (pc := 39) (j := 2) dX11_strip_39 rfl rfl ?_
        refine jw_callV (pc := 40) (m2 := mX5_stripAt) (As := [.int a1, .int a2]) (st := [.ref (x.2.2.2 0)]) dX11_strip_40 sC_30 (by decide) rfl rfl gm_X5_stripAt ml_X11_227 rfl (Nat.le_of_ble_eq_true rfl) (JC.mono h ?_)
        clear h
        rintro M4 _ ⟨r3, rfl, h⟩
        refine jw_st (st' := [.int r3, .ref (x.2.2.2 0)]) rfl ?_
        refine jw_callV (pc := 43) (m2 := mX11_answered) (As := [.int r3]) (st := []) dX11_strip_43 sC_0 (by decide) rfl rfl gm_X11_answered ml_X11_165 rfl (Nat.le_of_ble_eq_true rfl) (JC.mono h ?_)
        clear h
        rintro M5 _ ⟨r4, rfl, h⟩
        refine jw_st (st' := [.int r4]) rfl ?_
        exact jw_iret (pc := 46) dX11_strip_46 rfl ⟨_, rfl, h⟩
      · replace h := h.2 ((jb_0 _).mp c)
        refine jw_aload_n (pc := 24) (j := 0) dX11_strip_24 rfl rfl ?_
        refine jw_iconst (pc := 25) (v := 2) dX11_strip_25 rfl ?_
        refine jw_callV (pc := 26) (m2 := mX11_refused) (As := [.int (2 : Int32)]) (st := []) dX11_strip_26 sC_0 (by decide) rfl rfl gm_X11_refused ml_X11_106 rfl (Nat.le_of_ble_eq_true rfl) (JC.mono h ?_)
        clear h
        rintro M6 _ ⟨r5, rfl, h⟩
        refine jw_st (st' := [.int r5]) rfl ?_
        exact jw_iret (pc := 29) dX11_strip_29 rfl ⟨_, rfl, h⟩
set_option maxRecDepth 20000 in
theorem b_X11_height {x : jX} {d : Nat} {M : jM} {P : jM → Int32 → Prop} {a1 : Int32} 
    (h : JC x jtbC mX5_hasCell d [.ref (x.2.2.2 30), .int a1] M (jZ fun M1 b1 => (b1 = true → ∃ j1, j1 < 25 ∧ a1 = nI j1 ∧ (JC x jtbC mX11_answered d [.ref (x.2.2.2 0), .int (M1.1 39 j1)] M1 (jI fun M2 r1 => P M2 r1))) ∧ (b1 = false → JC x jtbC mX11_refused d [.ref (x.2.2.2 0), .int (2 : Int32)] M1 (jI fun M3 r2 => P M3 r2)))) :
    JC x jtbC mX11_height (d + 1) [.ref (x.2.2.2 0), .int a1] M (jI P) := by
  refine JC.of rfl (Nat.le_of_ble_eq_true rfl) ?_
  refine jw_ls (ls' := [(0, .ref (x.2.2.2 0)), (1, .int a1)]) rfl ?_
  refine jw_aload_n (pc := 0) (j := 0) dX11_height_0 rfl rfl ?_
  refine jw_getR (pc := 1) (r := 29) dX11_height_1 sC_0 fl_X11_36 (by decide) rfl rfl ?_
  refine jw_getR (pc := 4) (r := 30) dX11_height_4 sC_29 fl_X11_157 (by decide) rfl rfl ?_
  refine jw_iload_n (pc := 7) (j := 1) dX11_height_7 rfl rfl ?_
  refine jw_callV (pc := 8) (m2 := mX5_hasCell) (As := [.int a1]) (st := []) dX11_height_8 sC_30 (by decide) rfl rfl gm_X5_hasCell ml_X11_197 rfl (Nat.le_of_ble_eq_true rfl) (JC.mono h ?_)
  clear h
  rintro M1 _ ⟨b1, rfl, h⟩
  refine jw_st (st' := [.int (jb b1)]) rfl ?_
  refine jw_if_ne (pc := 11) (tgt := 20) dX11_height_11 (by decide) (fun c => ?_) (fun c => ?_)
  · replace h := h.1 (jb_ne c)
    refine jw_aload_n (pc := 20) (j := 0) dX11_height_20 rfl rfl ?_
    refine jw_aload_n (pc := 21) (j := 0) dX11_height_21 rfl rfl ?_
    refine jw_getR (pc := 22) (r := 29) dX11_height_22 sC_0 fl_X11_36 (by decide) rfl rfl ?_
    refine jw_getR (pc := 25) (r := 39) dX11_height_25 sC_29 fl_X11_230 (by decide) rfl rfl ?_
    refine jw_iload_n (pc := 28) (j := 1) dX11_height_28 rfl rfl ?_
    obtain ⟨j1, hj1, ej1, h⟩ := h
    refine jw_iald (pc := 29) (j := j1) dX11_height_29 sC_39 hj1 ej1 (by decide) ?_
    refine jw_callV (pc := 30) (m2 := mX11_answered) (As := [.int (M1.1 39 j1)]) (st := []) dX11_height_30 sC_0 (by decide) rfl rfl gm_X11_answered ml_X11_165 rfl (Nat.le_of_ble_eq_true rfl) (JC.mono h ?_)
    clear h
    rintro M2 _ ⟨r1, rfl, h⟩
    refine jw_st (st' := [.int r1]) rfl ?_
    exact jw_iret (pc := 33) dX11_height_33 rfl ⟨_, rfl, h⟩
  · replace h := h.2 ((jb_0 _).mp c)
    refine jw_aload_n (pc := 14) (j := 0) dX11_height_14 rfl rfl ?_
    refine jw_iconst (pc := 15) (v := 2) dX11_height_15 rfl ?_
    refine jw_callV (pc := 16) (m2 := mX11_refused) (As := [.int (2 : Int32)]) (st := []) dX11_height_16 sC_0 (by decide) rfl rfl gm_X11_refused ml_X11_106 rfl (Nat.le_of_ble_eq_true rfl) (JC.mono h ?_)
    clear h
    rintro M3 _ ⟨r2, rfl, h⟩
    refine jw_st (st' := [.int r2]) rfl ?_
    exact jw_iret (pc := 19) dX11_height_19 rfl ⟨_, rfl, h⟩
set_option maxRecDepth 20000 in
theorem b_X11_build {x : jX} {d : Nat} {M : jM} {P : jM → Bool → Prop} {a1 : Int32} {a2 : Int32} 
    (h : JC x jtbC mX5_hasCell d [.ref (x.2.2.2 30), .int a1] M (jZ fun M1 b1 => (b1 = true → JC x jtbC mX11_isHeight d [.long a2.toInt64] M1 (jZ fun M2 b2 => (b2 = true → ∃ j1, j1 < 25 ∧ a1 = nI j1 ∧ (∀ M3, M3 = jrI M2 39 (upd (M2.1 39) j1 a2) → JC x jtbC mX11_isDone d [.ref (x.2.2.2 0), .int (0 : Int32)] M3 (jZ fun M4 b3 => P M4 b3))) ∧ (b2 = false → JC x jtbC mX11_isDone d [.ref (x.2.2.2 0), .int (5 : Int32)] M2 (jZ fun M5 b4 => P M5 b4)))) ∧ (b1 = false → JC x jtbC mX11_isDone d [.ref (x.2.2.2 0), .int (2 : Int32)] M1 (jZ fun M6 b5 => P M6 b5)))) :
    JC x jtbC mX11_build (d + 1) [.ref (x.2.2.2 0), .int a1, .int a2] M (jZ P) := by
  refine JC.of rfl (Nat.le_of_ble_eq_true rfl) ?_
  refine jw_ls (ls' := [(0, .ref (x.2.2.2 0)), (1, .int a1), (2, .int a2)]) rfl ?_
  refine jw_aload_n (pc := 0) (j := 0) dX11_build_0 rfl rfl ?_
  refine jw_getR (pc := 1) (r := 29) dX11_build_1 sC_0 fl_X11_36 (by decide) rfl rfl ?_
  refine jw_getR (pc := 4) (r := 30) dX11_build_4 sC_29 fl_X11_157 (by decide) rfl rfl ?_
  refine jw_iload_n (pc := 7) (j := 1) dX11_build_7 rfl rfl ?_
  refine jw_callV (pc := 8) (m2 := mX5_hasCell) (As := [.int a1]) (st := []) dX11_build_8 sC_30 (by decide) rfl rfl gm_X5_hasCell ml_X11_197 rfl (Nat.le_of_ble_eq_true rfl) (JC.mono h ?_)
  clear h
  rintro M1 _ ⟨b1, rfl, h⟩
  refine jw_st (st' := [.int (jb b1)]) rfl ?_
  refine jw_if_ne (pc := 11) (tgt := 20) dX11_build_11 (by decide) (fun c => ?_) (fun c => ?_)
  · replace h := h.1 (jb_ne c)
    refine jw_iload_n (pc := 20) (j := 2) dX11_build_20 rfl rfl ?_
    refine jw_i2l (pc := 21) dX11_build_21 ?_
    refine jw_callS (pc := 22) (m2 := mX11_isHeight) (As := [.long a2.toInt64]) (st := []) dX11_build_22 gm_X11_isHeight ml_X11_233 rfl (Nat.le_of_ble_eq_true rfl) (JC.mono h ?_)
    clear h
    rintro M2 _ ⟨b2, rfl, h⟩
    refine jw_st (st' := [.int (jb b2)]) rfl ?_
    refine jw_if_ne (pc := 25) (tgt := 34) dX11_build_25 (by decide) (fun c => ?_) (fun c => ?_)
    · replace h := h.1 (jb_ne c)
      refine jw_aload_n (pc := 34) (j := 0) dX11_build_34 rfl rfl ?_
      refine jw_getR (pc := 35) (r := 29) dX11_build_35 sC_0 fl_X11_36 (by decide) rfl rfl ?_
      refine jw_getR (pc := 38) (r := 39) dX11_build_38 sC_29 fl_X11_230 (by decide) rfl rfl ?_
      refine jw_iload_n (pc := 41) (j := 1) dX11_build_41 rfl rfl ?_
      refine jw_iload_n (pc := 42) (j := 2) dX11_build_42 rfl rfl ?_
      obtain ⟨j1, hj1, ej1, h⟩ := h
      refine jw_iast (pc := 43) (j := j1) dX11_build_43 sC_39 hj1 ej1 (by decide) ?_
      replace h := h _ rfl
      generalize jrI M2 39 (upd (M2.1 39) j1 a2) = M3 at h ⊢
      refine jw_aload_n (pc := 44) (j := 0) dX11_build_44 rfl rfl ?_
      refine jw_iconst (pc := 45) (v := 0) dX11_build_45 rfl ?_
      refine jw_callV (pc := 46) (m2 := mX11_isDone) (As := [.int (0 : Int32)]) (st := []) dX11_build_46 sC_0 (by decide) rfl rfl gm_X11_isDone ml_X11_91 rfl (Nat.le_of_ble_eq_true rfl) (JC.mono h ?_)
      clear h
      rintro M4 _ ⟨b3, rfl, h⟩
      refine jw_st (st' := [.int (jb b3)]) rfl ?_
      exact jw_zret (pc := 49) dX11_build_49 rfl (jb_01 _) ⟨_, rfl, h⟩
    · replace h := h.2 ((jb_0 _).mp c)
      refine jw_aload_n (pc := 28) (j := 0) dX11_build_28 rfl rfl ?_
      refine jw_iconst (pc := 29) (v := 5) dX11_build_29 rfl ?_
      refine jw_callV (pc := 30) (m2 := mX11_isDone) (As := [.int (5 : Int32)]) (st := []) dX11_build_30 sC_0 (by decide) rfl rfl gm_X11_isDone ml_X11_91 rfl (Nat.le_of_ble_eq_true rfl) (JC.mono h ?_)
      clear h
      rintro M5 _ ⟨b4, rfl, h⟩
      refine jw_st (st' := [.int (jb b4)]) rfl ?_
      exact jw_zret (pc := 33) dX11_build_33 rfl (jb_01 _) ⟨_, rfl, h⟩
  · replace h := h.2 ((jb_0 _).mp c)
    refine jw_aload_n (pc := 14) (j := 0) dX11_build_14 rfl rfl ?_
    refine jw_iconst (pc := 15) (v := 2) dX11_build_15 rfl ?_
    refine jw_callV (pc := 16) (m2 := mX11_isDone) (As := [.int (2 : Int32)]) (st := []) dX11_build_16 sC_0 (by decide) rfl rfl gm_X11_isDone ml_X11_91 rfl (Nat.le_of_ble_eq_true rfl) (JC.mono h ?_)
    clear h
    rintro M6 _ ⟨b5, rfl, h⟩
    refine jw_st (st' := [.int (jb b5)]) rfl ?_
    exact jw_zret (pc := 19) dX11_build_19 rfl (jb_01 _) ⟨_, rfl, h⟩
set_option maxRecDepth 20000 in
theorem b_X11_buildAll {x : jX} {d : Nat} {M : jM} {P : jM → Bool → Prop} {a1 : Int32} 
    (h : JC x jtbC mX11_trayRowStatus d [.ref (x.2.2.2 0), .int a1, .int (M.1 30 2)] M (jI fun M1 r1 => (¬ r1 = 0 → JC x jtbC mX11_isDone d [.ref (x.2.2.2 0), .int r1] M1 (jZ fun M2 b1 => P M2 b1)) ∧ (r1 = 0 → ∃ j1, j1 < 4 ∧ a1 = nI j1 ∧ (JC x jtbC mX9_copyHeights d [.ref (x.2.2.2 (77 + 2 * j1)), .int (0 : Int32), .int (M1.1 30 2), .ref (x.2.2.2 39), .int (0 : Int32)] M1 (jV fun M3 => JC x jtbC mX11_isDone d [.ref (x.2.2.2 0), .int r1] M3 (jZ fun M4 b2 => P M4 b2)))))) :
    JC x jtbC mX11_buildAll (d + 1) [.ref (x.2.2.2 0), .int a1] M (jZ P) := by
  refine JC.of rfl (Nat.le_of_ble_eq_true rfl) ?_
  refine jw_ls (ls' := [(0, .ref (x.2.2.2 0)), (1, .int a1)]) rfl ?_
  refine jw_aload_n (pc := 0) (j := 0) dX11_buildAll_0 rfl rfl ?_
  refine jw_iload_n (pc := 1) (j := 1) dX11_buildAll_1 rfl rfl ?_
  refine jw_aload_n (pc := 2) (j := 0) dX11_buildAll_2 rfl rfl ?_
  refine jw_getR (pc := 3) (r := 29) dX11_buildAll_3 sC_0 fl_X11_36 (by decide) rfl rfl ?_
  refine jw_getR (pc := 6) (r := 30) dX11_buildAll_6 sC_29 fl_X11_157 (by decide) rfl rfl ?_
  refine jw_getI (pc := 9) dX11_buildAll_9 sC_30 fl_X11_160 (by decide) rfl ?_
  refine jw_callV (pc := 12) (m2 := mX11_trayRowStatus) (As := [.int a1, .int (M.1 30 2)]) (st := []) dX11_buildAll_12 sC_0 (by decide) rfl rfl gm_X11_trayRowStatus ml_X11_237 rfl (Nat.le_of_ble_eq_true rfl) (JC.mono h ?_)
  clear h
  rintro M1 _ ⟨r1, rfl, h⟩
  refine jw_st (st' := [.int r1]) rfl ?_
  refine jw_istore_n (pc := 15) (ls' := [(2, .int r1), (0, .ref (x.2.2.2 0)), (1, .int a1)]) dX11_buildAll_15 rfl (by decide) rfl ?_
  refine jw_iload_n (pc := 16) (j := 0) dX11_buildAll_16 rfl rfl ?_
  refine jw_if_ne (pc := 17) (tgt := 48) dX11_buildAll_17 (by decide) (fun c => ?_) (fun c => ?_)
  · replace h := h.1 c
    refine jw_aload_n (pc := 48) (j := 1) dX11_buildAll_48 rfl rfl ?_
    refine jw_iload_n (pc := 49) (j := 0) dX11_buildAll_49 rfl rfl ?_
    refine jw_callV (pc := 50) (m2 := mX11_isDone) (As := [.int r1]) (st := []) dX11_buildAll_50 sC_0 (by decide) rfl rfl gm_X11_isDone ml_X11_91 rfl (Nat.le_of_ble_eq_true rfl) (JC.mono h ?_)
    clear h
    rintro M2 _ ⟨b1, rfl, h⟩
    refine jw_st (st' := [.int (jb b1)]) rfl ?_
    exact jw_zret (pc := 53) dX11_buildAll_53 rfl (jb_01 _) ⟨_, rfl, h⟩
  · replace h := h.2 c
    refine jw_aload_n (pc := 20) (j := 1) dX11_buildAll_20 rfl rfl ?_
    refine jw_getR (pc := 21) (r := 1) dX11_buildAll_21 sC_0 fl_X11_11 (by decide) rfl rfl ?_
    refine jw_iload_n (pc := 24) (j := 2) dX11_buildAll_24 rfl rfl ?_
    obtain ⟨j1, hj1, ej1, h⟩ := h
    refine jw_aald24 (pc := 25) (j := j1) (r := 77 + 2 * j1) dX11_buildAll_25 sC_1 hj1 ej1 (by decide) (by simp [jel]) ?_
    refine jw_iconst (pc := 26) (v := 0) dX11_buildAll_26 rfl ?_
    refine jw_aload_n (pc := 27) (j := 1) dX11_buildAll_27 rfl rfl ?_
    refine jw_getR (pc := 28) (r := 29) dX11_buildAll_28 sC_0 fl_X11_36 (by decide) rfl rfl ?_
    refine jw_getR (pc := 31) (r := 30) dX11_buildAll_31 sC_29 fl_X11_157 (by decide) rfl rfl ?_
    refine jw_getI (pc := 34) dX11_buildAll_34 sC_30 fl_X11_160 (by decide) rfl ?_
    refine jw_aload_n (pc := 37) (j := 1) dX11_buildAll_37 rfl rfl ?_
    refine jw_getR (pc := 38) (r := 29) dX11_buildAll_38 sC_0 fl_X11_36 (by decide) rfl rfl ?_
    refine jw_getR (pc := 41) (r := 39) dX11_buildAll_41 sC_29 fl_X11_230 (by decide) rfl rfl ?_
    refine jw_iconst (pc := 44) (v := 0) dX11_buildAll_44 rfl ?_
    refine jw_callV (pc := 45) (m2 := mX9_copyHeights) (As := [.int (0 : Int32), .int (M1.1 30 2), .ref (x.2.2.2 39), .int (0 : Int32)]) (st := []) dX11_buildAll_45 (at9 hj1).1 (by decide) rfl rfl gm_X9_copyHeights ml_X11_240 rfl (Nat.le_of_ble_eq_true rfl) (JC.mono h ?_)
    clear h
    rintro M3 _ ⟨rfl, h⟩
    refine jw_st (st' := []) rfl ?_
    refine jw_aload_n (pc := 48) (j := 1) dX11_buildAll_48 rfl rfl ?_
    refine jw_iload_n (pc := 49) (j := 0) dX11_buildAll_49 rfl rfl ?_
    refine jw_callV (pc := 50) (m2 := mX11_isDone) (As := [.int r1]) (st := []) dX11_buildAll_50 sC_0 (by decide) rfl rfl gm_X11_isDone ml_X11_91 rfl (Nat.le_of_ble_eq_true rfl) (JC.mono h ?_)
    clear h
    rintro M4 _ ⟨b2, rfl, h⟩
    refine jw_st (st' := [.int (jb b2)]) rfl ?_
    exact jw_zret (pc := 53) dX11_buildAll_53 rfl (jb_01 _) ⟨_, rfl, h⟩
set_option maxRecDepth 20000 in
theorem b_X11_seen {x : jX} {d : Nat} {M : jM} {P : jM → Int32 → Prop} {a1 : Int32} {a2 : Int32} 
    (h : JC x jtbC mX5_hasStrip d [.ref (x.2.2.2 30), .int a1, .int a2] M (jZ fun M1 b1 => (b1 = true → JC x jtbC mX5_sightOf d [.ref (x.2.2.2 30), .int a1, .int a2, .ref (x.2.2.2 39)] M1 (jI fun M2 r1 => JC x jtbC mX11_answered d [.ref (x.2.2.2 0), .int r1] M2 (jI fun M3 r2 => P M3 r2))) ∧ (b1 = false → JC x jtbC mX11_refused d [.ref (x.2.2.2 0), .int (2 : Int32)] M1 (jI fun M4 r3 => P M4 r3)))) :
    JC x jtbC mX11_seen (d + 1) [.ref (x.2.2.2 0), .int a1, .int a2] M (jI P) := by
  refine JC.of rfl (Nat.le_of_ble_eq_true rfl) ?_
  refine jw_ls (ls' := [(0, .ref (x.2.2.2 0)), (1, .int a1), (2, .int a2)]) rfl ?_
  refine jw_aload_n (pc := 0) (j := 0) dX11_seen_0 rfl rfl ?_
  refine jw_getR (pc := 1) (r := 29) dX11_seen_1 sC_0 fl_X11_36 (by decide) rfl rfl ?_
  refine jw_getR (pc := 4) (r := 30) dX11_seen_4 sC_29 fl_X11_157 (by decide) rfl rfl ?_
  refine jw_iload_n (pc := 7) (j := 1) dX11_seen_7 rfl rfl ?_
  refine jw_iload_n (pc := 8) (j := 2) dX11_seen_8 rfl rfl ?_
  refine jw_callV (pc := 9) (m2 := mX5_hasStrip) (As := [.int a1, .int a2]) (st := []) dX11_seen_9 sC_30 (by decide) rfl rfl gm_X5_hasStrip ml_X11_221 rfl (Nat.le_of_ble_eq_true rfl) (JC.mono h ?_)
  clear h
  rintro M1 _ ⟨b1, rfl, h⟩
  refine jw_st (st' := [.int (jb b1)]) rfl ?_
  refine jw_if_ne (pc := 12) (tgt := 21) dX11_seen_12 (by decide) (fun c => ?_) (fun c => ?_)
  · replace h := h.1 (jb_ne c)
    refine jw_aload_n (pc := 21) (j := 0) dX11_seen_21 rfl rfl ?_
    refine jw_aload_n (pc := 22) (j := 0) dX11_seen_22 rfl rfl ?_
    refine jw_getR (pc := 23) (r := 29) dX11_seen_23 sC_0 fl_X11_36 (by decide) rfl rfl ?_
    refine jw_getR (pc := 26) (r := 30) dX11_seen_26 sC_29 fl_X11_157 (by decide) rfl rfl ?_
    refine jw_iload_n (pc := 29) (j := 1) dX11_seen_29 rfl rfl ?_
    refine jw_iload_n (pc := 30) (j := 2) dX11_seen_30 rfl rfl ?_
    refine jw_aload_n (pc := 31) (j := 0) dX11_seen_31 rfl rfl ?_
    refine jw_getR (pc := 32) (r := 29) dX11_seen_32 sC_0 fl_X11_36 (by decide) rfl rfl ?_
    refine jw_getR (pc := 35) (r := 39) dX11_seen_35 sC_29 fl_X11_230 (by decide) rfl rfl ?_
    refine jw_callV (pc := 38) (m2 := mX5_sightOf) (As := [.int a1, .int a2, .ref (x.2.2.2 39)]) (st := [.ref (x.2.2.2 0)]) dX11_seen_38 sC_30 (by decide) rfl rfl gm_X5_sightOf ml_X11_244 rfl (Nat.le_of_ble_eq_true rfl) (JC.mono h ?_)
    clear h
    rintro M2 _ ⟨r1, rfl, h⟩
    refine jw_st (st' := [.int r1, .ref (x.2.2.2 0)]) rfl ?_
    refine jw_callV (pc := 41) (m2 := mX11_answered) (As := [.int r1]) (st := []) dX11_seen_41 sC_0 (by decide) rfl rfl gm_X11_answered ml_X11_165 rfl (Nat.le_of_ble_eq_true rfl) (JC.mono h ?_)
    clear h
    rintro M3 _ ⟨r2, rfl, h⟩
    refine jw_st (st' := [.int r2]) rfl ?_
    exact jw_iret (pc := 44) dX11_seen_44 rfl ⟨_, rfl, h⟩
  · replace h := h.2 ((jb_0 _).mp c)
    refine jw_aload_n (pc := 15) (j := 0) dX11_seen_15 rfl rfl ?_
    refine jw_iconst (pc := 16) (v := 2) dX11_seen_16 rfl ?_
    refine jw_callV (pc := 17) (m2 := mX11_refused) (As := [.int (2 : Int32)]) (st := []) dX11_seen_17 sC_0 (by decide) rfl rfl gm_X11_refused ml_X11_106 rfl (Nat.le_of_ble_eq_true rfl) (JC.mono h ?_)
    clear h
    rintro M4 _ ⟨r3, rfl, h⟩
    refine jw_st (st' := [.int r3]) rfl ?_
    exact jw_iret (pc := 20) dX11_seen_20 rfl ⟨_, rfl, h⟩
set_option maxRecDepth 20000 in
theorem b_X11_otherwise {x : jX} {d : Nat} {M : jM} {P : jM → Int32 → Prop} {a1 : Int32} 
    (h : (a1 = 0 → JW x jtbC mX11_otherwise (d + 1) (jI P) 15 [(0, .ref (x.2.2.2 0)), (1, .int a1)] [] M) ∧ (¬ a1 = 0 → (a1 = (1 : Int32) → JW x jtbC mX11_otherwise (d + 1) (jI P) 15 [(0, .ref (x.2.2.2 0)), (1, .int a1)] [] M) ∧ (¬ a1 = (1 : Int32) → JC x jtbC mX11_refused d [.ref (x.2.2.2 0), .int (5 : Int32)] M (jI fun M1 r1 => P M1 r1)))) :
    JC x jtbC mX11_otherwise (d + 1) [.ref (x.2.2.2 0), .int a1] M (jI P) := by
  refine JC.of rfl (Nat.le_of_ble_eq_true rfl) ?_
  refine jw_ls (ls' := [(0, .ref (x.2.2.2 0)), (1, .int a1)]) rfl ?_
  refine jw_iload_n (pc := 0) (j := 1) dX11_otherwise_0 rfl rfl ?_
  refine jw_if_eq (pc := 1) (tgt := 15) dX11_otherwise_1 (by decide) (fun c => ?_) (fun c => ?_)
  · replace h := h.1 c
    exact jw_sub [0, 1] rfl h
  · replace h := h.2 c
    refine jw_iload_n (pc := 4) (j := 1) dX11_otherwise_4 rfl rfl ?_
    refine jw_iconst (pc := 5) (v := 1) dX11_otherwise_5 rfl ?_
    refine jw_icmp_eq (pc := 6) (tgt := 15) dX11_otherwise_6 (by decide) (fun c => ?_) (fun c => ?_)
    · replace h := h.1 c
      exact jw_sub [0, 1] rfl h
    · replace h := h.2 c
      refine jw_aload_n (pc := 9) (j := 0) dX11_otherwise_9 rfl rfl ?_
      refine jw_iconst (pc := 10) (v := 5) dX11_otherwise_10 rfl ?_
      refine jw_callV (pc := 11) (m2 := mX11_refused) (As := [.int (5 : Int32)]) (st := []) dX11_otherwise_11 sC_0 (by decide) rfl rfl gm_X11_refused ml_X11_106 rfl (Nat.le_of_ble_eq_true rfl) (JC.mono h ?_)
      clear h
      rintro M1 _ ⟨r1, rfl, h⟩
      refine jw_st (st' := [.int r1]) rfl ?_
      exact jw_iret (pc := 14) dX11_otherwise_14 rfl ⟨_, rfl, h⟩
set_option maxRecDepth 20000 in
theorem b_X11_otherwise_15 {x : jX} {d : Nat} {M : jM} {P : jM → Int32 → Prop} {l1 : Int32} 
    (h : JC x jtbC mX5_firstUnlikeVillage d [.ref (x.2.2.2 30), .ref (x.2.2.2 39)] M (jI fun M1 r1 => (¬ r1 = (-1 : Int32) → (¬ l1 = 0 → JC x jtbC mX5_firstUnlikeStrip d [.ref (x.2.2.2 30), .int r1, .ref (x.2.2.2 39)] M1 (jI fun M2 r2 => JC x jtbC mX11_answered d [.ref (x.2.2.2 0), .int r2] M2 (jI fun M3 r3 => P M3 r3))) ∧ (l1 = 0 → JC x jtbC mX11_answered d [.ref (x.2.2.2 0), .int r1] M1 (jI fun M4 r4 => P M4 r4))) ∧ (r1 = (-1 : Int32) → JC x jtbC mX11_refused d [.ref (x.2.2.2 0), .int (8 : Int32)] M1 (jI fun M5 r5 => P M5 r5)))) :
    JW x jtbC mX11_otherwise (d + 1) (jI P) 15 [(0, .ref (x.2.2.2 0)), (1, .int l1)] [] M := by
  refine jw_aload_n (pc := 15) (j := 0) dX11_otherwise_15 rfl rfl ?_
  refine jw_getR (pc := 16) (r := 29) dX11_otherwise_16 sC_0 fl_X11_36 (by decide) rfl rfl ?_
  refine jw_getR (pc := 19) (r := 30) dX11_otherwise_19 sC_29 fl_X11_157 (by decide) rfl rfl ?_
  refine jw_aload_n (pc := 22) (j := 0) dX11_otherwise_22 rfl rfl ?_
  refine jw_getR (pc := 23) (r := 29) dX11_otherwise_23 sC_0 fl_X11_36 (by decide) rfl rfl ?_
  refine jw_getR (pc := 26) (r := 39) dX11_otherwise_26 sC_29 fl_X11_230 (by decide) rfl rfl ?_
  refine jw_callV (pc := 29) (m2 := mX5_firstUnlikeVillage) (As := [.ref (x.2.2.2 39)]) (st := []) dX11_otherwise_29 sC_30 (by decide) rfl rfl gm_X5_firstUnlikeVillage ml_X11_248 rfl (Nat.le_of_ble_eq_true rfl) (JC.mono h ?_)
  clear h
  rintro M1 _ ⟨r1, rfl, h⟩
  refine jw_st (st' := [.int r1]) rfl ?_
  refine jw_istore_n (pc := 32) (ls' := [(2, .int r1), (0, .ref (x.2.2.2 0)), (1, .int l1)]) dX11_otherwise_32 rfl (by decide) rfl ?_
  refine jw_iload_n (pc := 33) (j := 0) dX11_otherwise_33 rfl rfl ?_
  refine jw_iconst (pc := 34) (v := (-1)) dX11_otherwise_34 rfl ?_
  refine jw_icmp_ne (pc := 35) (tgt := 45) dX11_otherwise_35 (by decide) (fun c => ?_) (fun c => ?_)
  · replace h := h.1 c
    refine jw_aload_n (pc := 45) (j := 1) dX11_otherwise_45 rfl rfl ?_
    refine jw_iload_n (pc := 46) (j := 2) dX11_otherwise_46 rfl rfl ?_
    refine jw_if_ne (pc := 47) (tgt := 54) dX11_otherwise_47 (by decide) (fun c => ?_) (fun c => ?_)
    · replace h := h.1 c
      refine jw_aload_n (pc := 54) (j := 1) dX11_otherwise_54 rfl rfl ?_
      refine jw_getR (pc := 55) (r := 29) dX11_otherwise_55 sC_0 fl_X11_36 (by decide) rfl rfl ?_
      refine jw_getR (pc := 58) (r := 30) dX11_otherwise_58 sC_29 fl_X11_157 (by decide) rfl rfl ?_
      refine jw_iload_n (pc := 61) (j := 0) dX11_otherwise_61 rfl rfl ?_
      refine jw_aload_n (pc := 62) (j := 1) dX11_otherwise_62 rfl rfl ?_
      refine jw_getR (pc := 63) (r := 29) dX11_otherwise_63 sC_0 fl_X11_36 (by decide) rfl rfl ?_
      refine jw_getR (pc := 66) (r := 39) dX11_otherwise_66 sC_29 fl_X11_230 (by decide) rfl rfl ?_
      refine jw_callV (pc := 69) (m2 := mX5_firstUnlikeStrip) (As := [.int r1, .ref (x.2.2.2 39)]) (st := [.ref (x.2.2.2 0)]) dX11_otherwise_69 sC_30 (by decide) rfl rfl gm_X5_firstUnlikeStrip ml_X11_252 rfl (Nat.le_of_ble_eq_true rfl) (JC.mono h ?_)
      clear h
      rintro M2 _ ⟨r2, rfl, h⟩
      refine jw_st (st' := [.int r2, .ref (x.2.2.2 0)]) rfl ?_
      refine jw_callV (pc := 72) (m2 := mX11_answered) (As := [.int r2]) (st := []) dX11_otherwise_72 sC_0 (by decide) rfl rfl gm_X11_answered ml_X11_165 rfl (Nat.le_of_ble_eq_true rfl) (JC.mono h ?_)
      clear h
      rintro M3 _ ⟨r3, rfl, h⟩
      refine jw_st (st' := [.int r3]) rfl ?_
      exact jw_iret (pc := 75) dX11_otherwise_75 rfl ⟨_, rfl, h⟩
    · replace h := h.2 c
      refine jw_iload_n (pc := 50) (j := 0) dX11_otherwise_50 rfl rfl ?_
      refine jw_goto (pc := 51) (tgt := 72) dX11_otherwise_51 (by decide) ?_
      refine jw_callV (pc := 72) (m2 := mX11_answered) (As := [.int r1]) (st := []) dX11_otherwise_72 sC_0 (by decide) rfl rfl gm_X11_answered ml_X11_165 rfl (Nat.le_of_ble_eq_true rfl) (JC.mono h ?_)
      clear h
      rintro M4 _ ⟨r4, rfl, h⟩
      refine jw_st (st' := [.int r4]) rfl ?_
      exact jw_iret (pc := 75) dX11_otherwise_75 rfl ⟨_, rfl, h⟩
  · replace h := h.2 c
    refine jw_aload_n (pc := 38) (j := 1) dX11_otherwise_38 rfl rfl ?_
    refine jw_bipush (pc := 39) (v := 8) dX11_otherwise_39 rfl ?_
    refine jw_callV (pc := 41) (m2 := mX11_refused) (As := [.int (8 : Int32)]) (st := []) dX11_otherwise_41 sC_0 (by decide) rfl rfl gm_X11_refused ml_X11_106 rfl (Nat.le_of_ble_eq_true rfl) (JC.mono h ?_)
    clear h
    rintro M5 _ ⟨r5, rfl, h⟩
    refine jw_st (st' := [.int r5]) rfl ?_
    exact jw_iret (pc := 44) dX11_otherwise_44 rfl ⟨_, rfl, h⟩
set_option maxRecDepth 20000 in
theorem b_X11_stone {x : jX} {d : Nat} {M : jM} {P : jM → Int32 → Prop}  
    (h : JC x jtbC mX5_stoneOf d [.ref (x.2.2.2 30), .ref (x.2.2.2 39)] M (jI fun M1 r1 => JC x jtbC mX11_answered d [.ref (x.2.2.2 0), .int r1] M1 (jI fun M2 r2 => P M2 r2))) :
    JC x jtbC mX11_stone (d + 1) [.ref (x.2.2.2 0)] M (jI P) := by
  refine JC.of rfl (Nat.le_of_ble_eq_true rfl) ?_
  refine jw_ls (ls' := [(0, .ref (x.2.2.2 0))]) rfl ?_
  refine jw_aload_n (pc := 0) (j := 0) dX11_stone_0 rfl rfl ?_
  refine jw_aload_n (pc := 1) (j := 0) dX11_stone_1 rfl rfl ?_
  refine jw_getR (pc := 2) (r := 29) dX11_stone_2 sC_0 fl_X11_36 (by decide) rfl rfl ?_
  refine jw_getR (pc := 5) (r := 30) dX11_stone_5 sC_29 fl_X11_157 (by decide) rfl rfl ?_
  refine jw_aload_n (pc := 8) (j := 0) dX11_stone_8 rfl rfl ?_
  refine jw_getR (pc := 9) (r := 29) dX11_stone_9 sC_0 fl_X11_36 (by decide) rfl rfl ?_
  refine jw_getR (pc := 12) (r := 39) dX11_stone_12 sC_29 fl_X11_230 (by decide) rfl rfl ?_
  refine jw_callV (pc := 15) (m2 := mX5_stoneOf) (As := [.ref (x.2.2.2 39)]) (st := [.ref (x.2.2.2 0)]) dX11_stone_15 sC_30 (by decide) rfl rfl gm_X5_stoneOf ml_X11_256 rfl (Nat.le_of_ble_eq_true rfl) (JC.mono h ?_)
  clear h
  rintro M1 _ ⟨r1, rfl, h⟩
  refine jw_st (st' := [.int r1, .ref (x.2.2.2 0)]) rfl ?_
  refine jw_callV (pc := 18) (m2 := mX11_answered) (As := [.int r1]) (st := []) dX11_stone_18 sC_0 (by decide) rfl rfl gm_X11_answered ml_X11_165 rfl (Nat.le_of_ble_eq_true rfl) (JC.mono h ?_)
  clear h
  rintro M2 _ ⟨r2, rfl, h⟩
  refine jw_st (st' := [.int r2]) rfl ?_
  exact jw_iret (pc := 21) dX11_stone_21 rfl ⟨_, rfl, h⟩
set_option maxRecDepth 20000 in
theorem b_X11_cap {x : jX} {d : Nat} {M : jM} {P : jM → Int32 → Prop} {a1 : Int32} {a2 : Int32} 
    (h : JC x jtbC mX5_hasCell d [.ref (x.2.2.2 30), .int a1] M (jZ fun M1 b1 => (b1 = false → JC x jtbC mX11_refused d [.ref (x.2.2.2 0), .int (2 : Int32)] M1 (jI fun M2 r1 => P M2 r1)) ∧ (b1 = true → JC x jtbC mX5_hasSet d [.ref (x.2.2.2 30), .int a2] M1 (jZ fun M3 b2 => (b2 = true → JC x jtbC mX8_wantPromises d [.ref (x.2.2.2 49), .ref (x.2.2.2 30), .int a2] M3 (jV fun M4 => ∃ j1, j1 < 25 ∧ a1 = nI j1 ∧ (JC x jtbC mX11_answered d [.ref (x.2.2.2 0), .int (M4.1 50 j1)] M4 (jI fun M5 r2 => P M5 r2)))) ∧ (b2 = false → JC x jtbC mX11_refused d [.ref (x.2.2.2 0), .int (2 : Int32)] M3 (jI fun M6 r3 => P M6 r3)))))) :
    JC x jtbC mX11_cap (d + 1) [.ref (x.2.2.2 0), .int a1, .int a2] M (jI P) := by
  refine JC.of rfl (Nat.le_of_ble_eq_true rfl) ?_
  refine jw_ls (ls' := [(0, .ref (x.2.2.2 0)), (1, .int a1), (2, .int a2)]) rfl ?_
  refine jw_aload_n (pc := 0) (j := 0) dX11_cap_0 rfl rfl ?_
  refine jw_getR (pc := 1) (r := 29) dX11_cap_1 sC_0 fl_X11_36 (by decide) rfl rfl ?_
  refine jw_getR (pc := 4) (r := 30) dX11_cap_4 sC_29 fl_X11_157 (by decide) rfl rfl ?_
  refine jw_iload_n (pc := 7) (j := 1) dX11_cap_7 rfl rfl ?_
  refine jw_callV (pc := 8) (m2 := mX5_hasCell) (As := [.int a1]) (st := []) dX11_cap_8 sC_30 (by decide) rfl rfl gm_X5_hasCell ml_X11_197 rfl (Nat.le_of_ble_eq_true rfl) (JC.mono h ?_)
  clear h
  rintro M1 _ ⟨b1, rfl, h⟩
  refine jw_st (st' := [.int (jb b1)]) rfl ?_
  refine jw_if_eq (pc := 11) (tgt := 28) dX11_cap_11 (by decide) (fun c => ?_) (fun c => ?_)
  · replace h := h.1 ((jb_0 _).mp c)
    refine jw_aload_n (pc := 28) (j := 0) dX11_cap_28 rfl rfl ?_
    refine jw_iconst (pc := 29) (v := 2) dX11_cap_29 rfl ?_
    refine jw_callV (pc := 30) (m2 := mX11_refused) (As := [.int (2 : Int32)]) (st := []) dX11_cap_30 sC_0 (by decide) rfl rfl gm_X11_refused ml_X11_106 rfl (Nat.le_of_ble_eq_true rfl) (JC.mono h ?_)
    clear h
    rintro M2 _ ⟨r1, rfl, h⟩
    refine jw_st (st' := [.int r1]) rfl ?_
    exact jw_iret (pc := 33) dX11_cap_33 rfl ⟨_, rfl, h⟩
  · replace h := h.2 (jb_ne c)
    refine jw_aload_n (pc := 14) (j := 0) dX11_cap_14 rfl rfl ?_
    refine jw_getR (pc := 15) (r := 29) dX11_cap_15 sC_0 fl_X11_36 (by decide) rfl rfl ?_
    refine jw_getR (pc := 18) (r := 30) dX11_cap_18 sC_29 fl_X11_157 (by decide) rfl rfl ?_
    refine jw_iload_n (pc := 21) (j := 2) dX11_cap_21 rfl rfl ?_
    refine jw_callV (pc := 22) (m2 := mX5_hasSet) (As := [.int a2]) (st := []) dX11_cap_22 sC_30 (by decide) rfl rfl gm_X5_hasSet ml_X11_259 rfl (Nat.le_of_ble_eq_true rfl) (JC.mono h ?_)
    clear h
    rintro M3 _ ⟨b2, rfl, h⟩
    refine jw_st (st' := [.int (jb b2)]) rfl ?_
    refine jw_if_ne (pc := 25) (tgt := 34) dX11_cap_25 (by decide) (fun c => ?_) (fun c => ?_)
    · replace h := h.1 (jb_ne c)
      refine jw_aload_n (pc := 34) (j := 0) dX11_cap_34 rfl rfl ?_
      refine jw_getR (pc := 35) (r := 49) dX11_cap_35 sC_0 fl_X11_47 (by decide) rfl rfl ?_
      refine jw_aload_n (pc := 38) (j := 0) dX11_cap_38 rfl rfl ?_
      refine jw_getR (pc := 39) (r := 29) dX11_cap_39 sC_0 fl_X11_36 (by decide) rfl rfl ?_
      refine jw_getR (pc := 42) (r := 30) dX11_cap_42 sC_29 fl_X11_157 (by decide) rfl rfl ?_
      refine jw_iload_n (pc := 45) (j := 2) dX11_cap_45 rfl rfl ?_
      refine jw_callV (pc := 46) (m2 := mX8_wantPromises) (As := [.ref (x.2.2.2 30), .int a2]) (st := []) dX11_cap_46 sC_49 (by decide) rfl rfl gm_X8_wantPromises ml_X11_262 rfl (Nat.le_of_ble_eq_true rfl) (JC.mono h ?_)
      clear h
      rintro M4 _ ⟨rfl, h⟩
      refine jw_st (st' := []) rfl ?_
      refine jw_aload_n (pc := 49) (j := 0) dX11_cap_49 rfl rfl ?_
      refine jw_aload_n (pc := 50) (j := 0) dX11_cap_50 rfl rfl ?_
      refine jw_getR (pc := 51) (r := 49) dX11_cap_51 sC_0 fl_X11_47 (by decide) rfl rfl ?_
      refine jw_getR (pc := 54) (r := 50) dX11_cap_54 sC_49 fl_X11_266 (by decide) rfl rfl ?_
      refine jw_iload_n (pc := 57) (j := 1) dX11_cap_57 rfl rfl ?_
      obtain ⟨j1, hj1, ej1, h⟩ := h
      refine jw_iald (pc := 58) (j := j1) dX11_cap_58 sC_50 hj1 ej1 (by decide) ?_
      refine jw_callV (pc := 59) (m2 := mX11_answered) (As := [.int (M4.1 50 j1)]) (st := []) dX11_cap_59 sC_0 (by decide) rfl rfl gm_X11_answered ml_X11_165 rfl (Nat.le_of_ble_eq_true rfl) (JC.mono h ?_)
      clear h
      rintro M5 _ ⟨r2, rfl, h⟩
      refine jw_st (st' := [.int r2]) rfl ?_
      exact jw_iret (pc := 62) dX11_cap_62 rfl ⟨_, rfl, h⟩
    · replace h := h.2 ((jb_0 _).mp c)
      refine jw_aload_n (pc := 28) (j := 0) dX11_cap_28 rfl rfl ?_
      refine jw_iconst (pc := 29) (v := 2) dX11_cap_29 rfl ?_
      refine jw_callV (pc := 30) (m2 := mX11_refused) (As := [.int (2 : Int32)]) (st := []) dX11_cap_30 sC_0 (by decide) rfl rfl gm_X11_refused ml_X11_106 rfl (Nat.le_of_ble_eq_true rfl) (JC.mono h ?_)
      clear h
      rintro M6 _ ⟨r3, rfl, h⟩
      refine jw_st (st' := [.int r3]) rfl ?_
      exact jw_iret (pc := 33) dX11_cap_33 rfl ⟨_, rfl, h⟩
set_option maxRecDepth 20000 in
theorem b_X11_can {x : jX} {d : Nat} {M : jM} {P : jM → Int32 → Prop} {a1 : Int32} 
    (h : JC x jtbC mX5_hasSet d [.ref (x.2.2.2 30), .int a1] M (jZ fun M1 b1 => (b1 = true → JC x jtbC mX11_canKeep d [.ref (x.2.2.2 0), .int a1] M1 (jZ fun M2 b2 => (b2 = false → JC x jtbC mX11_answered d [.ref (x.2.2.2 0), .int (0 : Int32)] M2 (jI fun M3 r1 => P M3 r1)) ∧ (b2 = true → JC x jtbC mX11_answered d [.ref (x.2.2.2 0), .int (1 : Int32)] M2 (jI fun M4 r2 => P M4 r2)))) ∧ (b1 = false → JC x jtbC mX11_refused d [.ref (x.2.2.2 0), .int (2 : Int32)] M1 (jI fun M5 r3 => P M5 r3)))) :
    JC x jtbC mX11_can (d + 1) [.ref (x.2.2.2 0), .int a1] M (jI P) := by
  refine JC.of rfl (Nat.le_of_ble_eq_true rfl) ?_
  refine jw_ls (ls' := [(0, .ref (x.2.2.2 0)), (1, .int a1)]) rfl ?_
  refine jw_aload_n (pc := 0) (j := 0) dX11_can_0 rfl rfl ?_
  refine jw_getR (pc := 1) (r := 29) dX11_can_1 sC_0 fl_X11_36 (by decide) rfl rfl ?_
  refine jw_getR (pc := 4) (r := 30) dX11_can_4 sC_29 fl_X11_157 (by decide) rfl rfl ?_
  refine jw_iload_n (pc := 7) (j := 1) dX11_can_7 rfl rfl ?_
  refine jw_callV (pc := 8) (m2 := mX5_hasSet) (As := [.int a1]) (st := []) dX11_can_8 sC_30 (by decide) rfl rfl gm_X5_hasSet ml_X11_259 rfl (Nat.le_of_ble_eq_true rfl) (JC.mono h ?_)
  clear h
  rintro M1 _ ⟨b1, rfl, h⟩
  refine jw_st (st' := [.int (jb b1)]) rfl ?_
  refine jw_if_ne (pc := 11) (tgt := 20) dX11_can_11 (by decide) (fun c => ?_) (fun c => ?_)
  · replace h := h.1 (jb_ne c)
    refine jw_aload_n (pc := 20) (j := 0) dX11_can_20 rfl rfl ?_
    refine jw_aload_n (pc := 21) (j := 0) dX11_can_21 rfl rfl ?_
    refine jw_iload_n (pc := 22) (j := 1) dX11_can_22 rfl rfl ?_
    refine jw_callV (pc := 23) (m2 := mX11_canKeep) (As := [.int a1]) (st := [.ref (x.2.2.2 0)]) dX11_can_23 sC_0 (by decide) rfl rfl gm_X11_canKeep ml_X11_269 rfl (Nat.le_of_ble_eq_true rfl) (JC.mono h ?_)
    clear h
    rintro M2 _ ⟨b2, rfl, h⟩
    refine jw_st (st' := [.int (jb b2), .ref (x.2.2.2 0)]) rfl ?_
    refine jw_if_eq (pc := 26) (tgt := 33) dX11_can_26 (by decide) (fun c => ?_) (fun c => ?_)
    · replace h := h.1 ((jb_0 _).mp c)
      refine jw_iconst (pc := 33) (v := 0) dX11_can_33 rfl ?_
      refine jw_callV (pc := 34) (m2 := mX11_answered) (As := [.int (0 : Int32)]) (st := []) dX11_can_34 sC_0 (by decide) rfl rfl gm_X11_answered ml_X11_165 rfl (Nat.le_of_ble_eq_true rfl) (JC.mono h ?_)
      clear h
      rintro M3 _ ⟨r1, rfl, h⟩
      refine jw_st (st' := [.int r1]) rfl ?_
      exact jw_iret (pc := 37) dX11_can_37 rfl ⟨_, rfl, h⟩
    · replace h := h.2 (jb_ne c)
      refine jw_iconst (pc := 29) (v := 1) dX11_can_29 rfl ?_
      refine jw_goto (pc := 30) (tgt := 34) dX11_can_30 (by decide) ?_
      refine jw_callV (pc := 34) (m2 := mX11_answered) (As := [.int (1 : Int32)]) (st := []) dX11_can_34 sC_0 (by decide) rfl rfl gm_X11_answered ml_X11_165 rfl (Nat.le_of_ble_eq_true rfl) (JC.mono h ?_)
      clear h
      rintro M4 _ ⟨r2, rfl, h⟩
      refine jw_st (st' := [.int r2]) rfl ?_
      exact jw_iret (pc := 37) dX11_can_37 rfl ⟨_, rfl, h⟩
  · replace h := h.2 ((jb_0 _).mp c)
    refine jw_aload_n (pc := 14) (j := 0) dX11_can_14 rfl rfl ?_
    refine jw_iconst (pc := 15) (v := 2) dX11_can_15 rfl ?_
    refine jw_callV (pc := 16) (m2 := mX11_refused) (As := [.int (2 : Int32)]) (st := []) dX11_can_16 sC_0 (by decide) rfl rfl gm_X11_refused ml_X11_106 rfl (Nat.le_of_ble_eq_true rfl) (JC.mono h ?_)
    clear h
    rintro M5 _ ⟨r3, rfl, h⟩
    refine jw_st (st' := [.int r3]) rfl ?_
    exact jw_iret (pc := 19) dX11_can_19 rfl ⟨_, rfl, h⟩
set_option maxRecDepth 20000 in
theorem b_X11_barred {x : jX} {d : Nat} {M : jM} {P : jM → Int32 → Prop} {a1 : Int32} {a2 : Int32} 
    (h : JC x jtbC mX5_hasSet d [.ref (x.2.2.2 30), .int a1] M (jZ fun M1 b1 => (b1 = true → (a2 < 0 → JC x jtbC mX11_refused d [.ref (x.2.2.2 0), .int (5 : Int32)] M1 (jI fun M2 r1 => P M2 r1)) ∧ (¬ a2 < 0 → (a2 ≤ (2 : Int32) → JC x jtbC mX11_canKeep d [.ref (x.2.2.2 0), .int a1] M1 (jZ fun M3 b2 => (b2 = false → ∃ j1, j1 < 3 ∧ a2 = nI j1 ∧ (JC x jtbC mX11_answered d [.ref (x.2.2.2 0), .int (M3.1 51 j1)] M3 (jI fun M4 r2 => P M4 r2))) ∧ (b2 = true → JC x jtbC mX11_refused d [.ref (x.2.2.2 0), .int (8 : Int32)] M3 (jI fun M5 r3 => P M5 r3)))) ∧ (¬ a2 ≤ (2 : Int32) → JC x jtbC mX11_refused d [.ref (x.2.2.2 0), .int (5 : Int32)] M1 (jI fun M6 r4 => P M6 r4)))) ∧ (b1 = false → JC x jtbC mX11_refused d [.ref (x.2.2.2 0), .int (2 : Int32)] M1 (jI fun M7 r5 => P M7 r5)))) :
    JC x jtbC mX11_barred (d + 1) [.ref (x.2.2.2 0), .int a1, .int a2] M (jI P) := by
  refine JC.of rfl (Nat.le_of_ble_eq_true rfl) ?_
  refine jw_ls (ls' := [(0, .ref (x.2.2.2 0)), (1, .int a1), (2, .int a2)]) rfl ?_
  refine jw_aload_n (pc := 0) (j := 0) dX11_barred_0 rfl rfl ?_
  refine jw_getR (pc := 1) (r := 29) dX11_barred_1 sC_0 fl_X11_36 (by decide) rfl rfl ?_
  refine jw_getR (pc := 4) (r := 30) dX11_barred_4 sC_29 fl_X11_157 (by decide) rfl rfl ?_
  refine jw_iload_n (pc := 7) (j := 1) dX11_barred_7 rfl rfl ?_
  refine jw_callV (pc := 8) (m2 := mX5_hasSet) (As := [.int a1]) (st := []) dX11_barred_8 sC_30 (by decide) rfl rfl gm_X5_hasSet ml_X11_259 rfl (Nat.le_of_ble_eq_true rfl) (JC.mono h ?_)
  clear h
  rintro M1 _ ⟨b1, rfl, h⟩
  refine jw_st (st' := [.int (jb b1)]) rfl ?_
  refine jw_if_ne (pc := 11) (tgt := 20) dX11_barred_11 (by decide) (fun c => ?_) (fun c => ?_)
  · replace h := h.1 (jb_ne c)
    refine jw_iload_n (pc := 20) (j := 2) dX11_barred_20 rfl rfl ?_
    refine jw_if_lt (pc := 21) (tgt := 29) dX11_barred_21 (by decide) (fun c => ?_) (fun c => ?_)
    · replace h := h.1 c
      refine jw_aload_n (pc := 29) (j := 0) dX11_barred_29 rfl rfl ?_
      refine jw_iconst (pc := 30) (v := 5) dX11_barred_30 rfl ?_
      refine jw_callV (pc := 31) (m2 := mX11_refused) (As := [.int (5 : Int32)]) (st := []) dX11_barred_31 sC_0 (by decide) rfl rfl gm_X11_refused ml_X11_106 rfl (Nat.le_of_ble_eq_true rfl) (JC.mono h ?_)
      clear h
      rintro M2 _ ⟨r1, rfl, h⟩
      refine jw_st (st' := [.int r1]) rfl ?_
      exact jw_iret (pc := 34) dX11_barred_34 rfl ⟨_, rfl, h⟩
    · replace h := h.2 c
      refine jw_iload_n (pc := 24) (j := 2) dX11_barred_24 rfl rfl ?_
      refine jw_iconst (pc := 25) (v := 2) dX11_barred_25 rfl ?_
      refine jw_icmp_le (pc := 26) (tgt := 35) dX11_barred_26 (by decide) (fun c => ?_) (fun c => ?_)
      · replace h := h.1 c
        refine jw_aload_n (pc := 35) (j := 0) dX11_barred_35 rfl rfl ?_
        refine jw_iload_n (pc := 36) (j := 1) dX11_barred_36 rfl rfl ?_
        refine jw_callV (pc := 37) (m2 := mX11_canKeep) (As := [.int a1]) (st := []) dX11_barred_37 sC_0 (by decide) rfl rfl gm_X11_canKeep ml_X11_269 rfl (Nat.le_of_ble_eq_true rfl) (JC.mono h ?_)
        clear h
        rintro M3 _ ⟨b2, rfl, h⟩
        refine jw_st (st' := [.int (jb b2)]) rfl ?_
        refine jw_if_eq (pc := 40) (tgt := 50) dX11_barred_40 (by decide) (fun c => ?_) (fun c => ?_)
        · replace h := h.1 ((jb_0 _).mp c)
          refine jw_aload_n (pc := 50) (j := 0) dX11_barred_50 rfl rfl ?_
          refine jw_aload_n (pc := 51) (j := 0) dX11_barred_51 rfl rfl ?_
          refine jw_getR (pc := 52) (r := 49) dX11_barred_52 sC_0 fl_X11_47 (by decide) rfl rfl ?_
          refine jw_getR (pc := 55) (r := 51) dX11_barred_55 sC_49 fl_X11_272 (by decide) rfl rfl ?_
          refine jw_iload_n (pc := 58) (j := 2) dX11_barred_58 rfl rfl ?_
          obtain ⟨j1, hj1, ej1, h⟩ := h
          refine jw_iald (pc := 59) (j := j1) dX11_barred_59 sC_51 hj1 ej1 (by decide) ?_
          refine jw_callV (pc := 60) (m2 := mX11_answered) (As := [.int (M3.1 51 j1)]) (st := []) dX11_barred_60 sC_0 (by decide) rfl rfl gm_X11_answered ml_X11_165 rfl (Nat.le_of_ble_eq_true rfl) (JC.mono h ?_)
          clear h
          rintro M4 _ ⟨r2, rfl, h⟩
          refine jw_st (st' := [.int r2]) rfl ?_
          exact jw_iret (pc := 63) dX11_barred_63 rfl ⟨_, rfl, h⟩
        · replace h := h.2 (jb_ne c)
          refine jw_aload_n (pc := 43) (j := 0) dX11_barred_43 rfl rfl ?_
          refine jw_bipush (pc := 44) (v := 8) dX11_barred_44 rfl ?_
          refine jw_callV (pc := 46) (m2 := mX11_refused) (As := [.int (8 : Int32)]) (st := []) dX11_barred_46 sC_0 (by decide) rfl rfl gm_X11_refused ml_X11_106 rfl (Nat.le_of_ble_eq_true rfl) (JC.mono h ?_)
          clear h
          rintro M5 _ ⟨r3, rfl, h⟩
          refine jw_st (st' := [.int r3]) rfl ?_
          exact jw_iret (pc := 49) dX11_barred_49 rfl ⟨_, rfl, h⟩
      · replace h := h.2 c
        refine jw_aload_n (pc := 29) (j := 0) dX11_barred_29 rfl rfl ?_
        refine jw_iconst (pc := 30) (v := 5) dX11_barred_30 rfl ?_
        refine jw_callV (pc := 31) (m2 := mX11_refused) (As := [.int (5 : Int32)]) (st := []) dX11_barred_31 sC_0 (by decide) rfl rfl gm_X11_refused ml_X11_106 rfl (Nat.le_of_ble_eq_true rfl) (JC.mono h ?_)
        clear h
        rintro M6 _ ⟨r4, rfl, h⟩
        refine jw_st (st' := [.int r4]) rfl ?_
        exact jw_iret (pc := 34) dX11_barred_34 rfl ⟨_, rfl, h⟩
  · replace h := h.2 ((jb_0 _).mp c)
    refine jw_aload_n (pc := 14) (j := 0) dX11_barred_14 rfl rfl ?_
    refine jw_iconst (pc := 15) (v := 2) dX11_barred_15 rfl ?_
    refine jw_callV (pc := 16) (m2 := mX11_refused) (As := [.int (2 : Int32)]) (st := []) dX11_barred_16 sC_0 (by decide) rfl rfl gm_X11_refused ml_X11_106 rfl (Nat.le_of_ble_eq_true rfl) (JC.mono h ?_)
    clear h
    rintro M7 _ ⟨r5, rfl, h⟩
    refine jw_st (st' := [.int r5]) rfl ?_
    exact jw_iret (pc := 19) dX11_barred_19 rfl ⟨_, rfl, h⟩
set_option maxRecDepth 20000 in
theorem b_X11_largest {x : jX} {d : Nat} {M : jM} {P : jM → Int32 → Prop} {a1 : Int32} 
    (h : JC x jtbC mX11_keptStatus d [.ref (x.2.2.2 0), .int a1] M (jI fun M1 r1 => (r1 = 0 → ∃ c1, M1.1 30 2 = nI c1 ∧ 0 + c1 ≤ 25 ∧ 0 + c1 ≤ 25 ∧ (∀ M2, M2 = jrI M1 39 (va_cpy (M1.1 50) (M1.1 39) 0 0 c1) → JC x jtbC mX5_stoneOf d [.ref (x.2.2.2 30), .ref (x.2.2.2 39)] M2 (jI fun M3 r2 => JC x jtbC mX11_answered d [.ref (x.2.2.2 0), .int r2] M3 (jI fun M4 r3 => P M4 r3)))) ∧ (¬ r1 = 0 → JC x jtbC mX11_refused d [.ref (x.2.2.2 0), .int r1] M1 (jI fun M5 r4 => P M5 r4)))) :
    JC x jtbC mX11_largest (d + 1) [.ref (x.2.2.2 0), .int a1] M (jI P) := by
  refine JC.of rfl (Nat.le_of_ble_eq_true rfl) ?_
  refine jw_ls (ls' := [(0, .ref (x.2.2.2 0)), (1, .int a1)]) rfl ?_
  refine jw_aload_n (pc := 0) (j := 0) dX11_largest_0 rfl rfl ?_
  refine jw_iload_n (pc := 1) (j := 1) dX11_largest_1 rfl rfl ?_
  refine jw_callV (pc := 2) (m2 := mX11_keptStatus) (As := [.int a1]) (st := []) dX11_largest_2 sC_0 (by decide) rfl rfl gm_X11_keptStatus ml_X11_275 rfl (Nat.le_of_ble_eq_true rfl) (JC.mono h ?_)
  clear h
  rintro M1 _ ⟨r1, rfl, h⟩
  refine jw_st (st' := [.int r1]) rfl ?_
  refine jw_istore_n (pc := 5) (ls' := [(2, .int r1), (0, .ref (x.2.2.2 0)), (1, .int a1)]) dX11_largest_5 rfl (by decide) rfl ?_
  refine jw_iload_n (pc := 6) (j := 0) dX11_largest_6 rfl rfl ?_
  refine jw_if_eq (pc := 7) (tgt := 16) dX11_largest_7 (by decide) (fun c => ?_) (fun c => ?_)
  · replace h := h.1 c
    refine jw_aload_n (pc := 16) (j := 1) dX11_largest_16 rfl rfl ?_
    refine jw_getR (pc := 17) (r := 49) dX11_largest_17 sC_0 fl_X11_47 (by decide) rfl rfl ?_
    refine jw_getR (pc := 20) (r := 50) dX11_largest_20 sC_49 fl_X11_266 (by decide) rfl rfl ?_
    refine jw_iconst (pc := 23) (v := 0) dX11_largest_23 rfl ?_
    refine jw_aload_n (pc := 24) (j := 1) dX11_largest_24 rfl rfl ?_
    refine jw_getR (pc := 25) (r := 29) dX11_largest_25 sC_0 fl_X11_36 (by decide) rfl rfl ?_
    refine jw_getR (pc := 28) (r := 39) dX11_largest_28 sC_29 fl_X11_230 (by decide) rfl rfl ?_
    refine jw_iconst (pc := 31) (v := 0) dX11_largest_31 rfl ?_
    refine jw_aload_n (pc := 32) (j := 1) dX11_largest_32 rfl rfl ?_
    refine jw_getR (pc := 33) (r := 29) dX11_largest_33 sC_0 fl_X11_36 (by decide) rfl rfl ?_
    refine jw_getR (pc := 36) (r := 30) dX11_largest_36 sC_29 fl_X11_157 (by decide) rfl rfl ?_
    refine jw_getI (pc := 39) dX11_largest_39 sC_30 fl_X11_160 (by decide) rfl ?_
    obtain ⟨c1, ec1, q1, q2, h⟩ := h
    refine jw_copyI (pc := 42) (a := 0) (b := 0) (k := c1) (st := []) dX11_largest_42 ac_X11_124 ac_n ac_s ac_i sC_50 sC_39 rfl rfl ec1 q1 q2 (by decide) (by decide) (jcw (Nat.le_of_ble_eq_true rfl)) ?_
    replace h := h _ rfl
    generalize jrI M1 39 (va_cpy (M1.1 50) (M1.1 39) 0 0 c1) = M2 at h ⊢
    refine jw_aload_n (pc := 45) (j := 1) dX11_largest_45 rfl rfl ?_
    refine jw_aload_n (pc := 46) (j := 1) dX11_largest_46 rfl rfl ?_
    refine jw_getR (pc := 47) (r := 29) dX11_largest_47 sC_0 fl_X11_36 (by decide) rfl rfl ?_
    refine jw_getR (pc := 50) (r := 30) dX11_largest_50 sC_29 fl_X11_157 (by decide) rfl rfl ?_
    refine jw_aload_n (pc := 53) (j := 1) dX11_largest_53 rfl rfl ?_
    refine jw_getR (pc := 54) (r := 29) dX11_largest_54 sC_0 fl_X11_36 (by decide) rfl rfl ?_
    refine jw_getR (pc := 57) (r := 39) dX11_largest_57 sC_29 fl_X11_230 (by decide) rfl rfl ?_
    refine jw_callV (pc := 60) (m2 := mX5_stoneOf) (As := [.ref (x.2.2.2 39)]) (st := [.ref (x.2.2.2 0)]) dX11_largest_60 sC_30 (by decide) rfl rfl gm_X5_stoneOf ml_X11_256 rfl (Nat.le_of_ble_eq_true rfl) (JC.mono h ?_)
    clear h
    rintro M3 _ ⟨r2, rfl, h⟩
    refine jw_st (st' := [.int r2, .ref (x.2.2.2 0)]) rfl ?_
    refine jw_callV (pc := 63) (m2 := mX11_answered) (As := [.int r2]) (st := []) dX11_largest_63 sC_0 (by decide) rfl rfl gm_X11_answered ml_X11_165 rfl (Nat.le_of_ble_eq_true rfl) (JC.mono h ?_)
    clear h
    rintro M4 _ ⟨r3, rfl, h⟩
    refine jw_st (st' := [.int r3]) rfl ?_
    exact jw_iret (pc := 66) dX11_largest_66 rfl ⟨_, rfl, h⟩
  · replace h := h.2 c
    refine jw_aload_n (pc := 10) (j := 1) dX11_largest_10 rfl rfl ?_
    refine jw_iload_n (pc := 11) (j := 0) dX11_largest_11 rfl rfl ?_
    refine jw_callV (pc := 12) (m2 := mX11_refused) (As := [.int r1]) (st := []) dX11_largest_12 sC_0 (by decide) rfl rfl gm_X11_refused ml_X11_106 rfl (Nat.le_of_ble_eq_true rfl) (JC.mono h ?_)
    clear h
    rintro M5 _ ⟨r4, rfl, h⟩
    refine jw_st (st' := [.int r4]) rfl ?_
    exact jw_iret (pc := 15) dX11_largest_15 rfl ⟨_, rfl, h⟩
set_option maxRecDepth 20000 in
theorem b_X11_cheapest {x : jX} {d : Nat} {M : jM} {P : jM → Int32 → Prop} {a1 : Int32} 
    (h : JC x jtbC mX11_keptStatus d [.ref (x.2.2.2 0), .int a1] M (jI fun M1 r1 => (r1 = 0 → JC x jtbC mX8_cheapestTown d [.ref (x.2.2.2 49), .ref (x.2.2.2 30), .ref (x.2.2.2 39)] M1 (jV fun M2 => JC x jtbC mX5_stoneOf d [.ref (x.2.2.2 30), .ref (x.2.2.2 39)] M2 (jI fun M3 r2 => JC x jtbC mX11_answered d [.ref (x.2.2.2 0), .int r2] M3 (jI fun M4 r3 => P M4 r3)))) ∧ (¬ r1 = 0 → JC x jtbC mX11_refused d [.ref (x.2.2.2 0), .int r1] M1 (jI fun M5 r4 => P M5 r4)))) :
    JC x jtbC mX11_cheapest (d + 1) [.ref (x.2.2.2 0), .int a1] M (jI P) := by
  refine JC.of rfl (Nat.le_of_ble_eq_true rfl) ?_
  refine jw_ls (ls' := [(0, .ref (x.2.2.2 0)), (1, .int a1)]) rfl ?_
  refine jw_aload_n (pc := 0) (j := 0) dX11_cheapest_0 rfl rfl ?_
  refine jw_iload_n (pc := 1) (j := 1) dX11_cheapest_1 rfl rfl ?_
  refine jw_callV (pc := 2) (m2 := mX11_keptStatus) (As := [.int a1]) (st := []) dX11_cheapest_2 sC_0 (by decide) rfl rfl gm_X11_keptStatus ml_X11_275 rfl (Nat.le_of_ble_eq_true rfl) (JC.mono h ?_)
  clear h
  rintro M1 _ ⟨r1, rfl, h⟩
  refine jw_st (st' := [.int r1]) rfl ?_
  refine jw_istore_n (pc := 5) (ls' := [(2, .int r1), (0, .ref (x.2.2.2 0)), (1, .int a1)]) dX11_cheapest_5 rfl (by decide) rfl ?_
  refine jw_iload_n (pc := 6) (j := 0) dX11_cheapest_6 rfl rfl ?_
  refine jw_if_eq (pc := 7) (tgt := 16) dX11_cheapest_7 (by decide) (fun c => ?_) (fun c => ?_)
  · replace h := h.1 c
    refine jw_aload_n (pc := 16) (j := 1) dX11_cheapest_16 rfl rfl ?_
    refine jw_getR (pc := 17) (r := 49) dX11_cheapest_17 sC_0 fl_X11_47 (by decide) rfl rfl ?_
    refine jw_aload_n (pc := 20) (j := 1) dX11_cheapest_20 rfl rfl ?_
    refine jw_getR (pc := 21) (r := 29) dX11_cheapest_21 sC_0 fl_X11_36 (by decide) rfl rfl ?_
    refine jw_getR (pc := 24) (r := 30) dX11_cheapest_24 sC_29 fl_X11_157 (by decide) rfl rfl ?_
    refine jw_aload_n (pc := 27) (j := 1) dX11_cheapest_27 rfl rfl ?_
    refine jw_getR (pc := 28) (r := 29) dX11_cheapest_28 sC_0 fl_X11_36 (by decide) rfl rfl ?_
    refine jw_getR (pc := 31) (r := 39) dX11_cheapest_31 sC_29 fl_X11_230 (by decide) rfl rfl ?_
    refine jw_callV (pc := 34) (m2 := mX8_cheapestTown) (As := [.ref (x.2.2.2 30), .ref (x.2.2.2 39)]) (st := []) dX11_cheapest_34 sC_49 (by decide) rfl rfl gm_X8_cheapestTown ml_X11_278 rfl (Nat.le_of_ble_eq_true rfl) (JC.mono h ?_)
    clear h
    rintro M2 _ ⟨rfl, h⟩
    refine jw_st (st' := []) rfl ?_
    refine jw_aload_n (pc := 37) (j := 1) dX11_cheapest_37 rfl rfl ?_
    refine jw_aload_n (pc := 38) (j := 1) dX11_cheapest_38 rfl rfl ?_
    refine jw_getR (pc := 39) (r := 29) dX11_cheapest_39 sC_0 fl_X11_36 (by decide) rfl rfl ?_
    refine jw_getR (pc := 42) (r := 30) dX11_cheapest_42 sC_29 fl_X11_157 (by decide) rfl rfl ?_
    refine jw_aload_n (pc := 45) (j := 1) dX11_cheapest_45 rfl rfl ?_
    refine jw_getR (pc := 46) (r := 29) dX11_cheapest_46 sC_0 fl_X11_36 (by decide) rfl rfl ?_
    refine jw_getR (pc := 49) (r := 39) dX11_cheapest_49 sC_29 fl_X11_230 (by decide) rfl rfl ?_
    refine jw_callV (pc := 52) (m2 := mX5_stoneOf) (As := [.ref (x.2.2.2 39)]) (st := [.ref (x.2.2.2 0)]) dX11_cheapest_52 sC_30 (by decide) rfl rfl gm_X5_stoneOf ml_X11_256 rfl (Nat.le_of_ble_eq_true rfl) (JC.mono h ?_)
    clear h
    rintro M3 _ ⟨r2, rfl, h⟩
    refine jw_st (st' := [.int r2, .ref (x.2.2.2 0)]) rfl ?_
    refine jw_callV (pc := 55) (m2 := mX11_answered) (As := [.int r2]) (st := []) dX11_cheapest_55 sC_0 (by decide) rfl rfl gm_X11_answered ml_X11_165 rfl (Nat.le_of_ble_eq_true rfl) (JC.mono h ?_)
    clear h
    rintro M4 _ ⟨r3, rfl, h⟩
    refine jw_st (st' := [.int r3]) rfl ?_
    exact jw_iret (pc := 58) dX11_cheapest_58 rfl ⟨_, rfl, h⟩
  · replace h := h.2 c
    refine jw_aload_n (pc := 10) (j := 1) dX11_cheapest_10 rfl rfl ?_
    refine jw_iload_n (pc := 11) (j := 0) dX11_cheapest_11 rfl rfl ?_
    refine jw_callV (pc := 12) (m2 := mX11_refused) (As := [.int r1]) (st := []) dX11_cheapest_12 sC_0 (by decide) rfl rfl gm_X11_refused ml_X11_106 rfl (Nat.le_of_ble_eq_true rfl) (JC.mono h ?_)
    clear h
    rintro M5 _ ⟨r4, rfl, h⟩
    refine jw_st (st' := [.int r4]) rfl ?_
    exact jw_iret (pc := 15) dX11_cheapest_15 rfl ⟨_, rfl, h⟩
set_option maxRecDepth 20000 in
theorem b_X11_least {x : jX} {d : Nat} {M : jM} {P : jM → Int32 → Prop} {a1 : Int32} 
    (h : JC x jtbC mX11_keptStatus d [.ref (x.2.2.2 0), .int a1] M (jI fun M1 r1 => (r1 = 0 → JC x jtbC mX8_cheapestTown d [.ref (x.2.2.2 49), .ref (x.2.2.2 30), .ref (x.2.2.2 73)] M1 (jV fun M2 => JC x jtbC mX5_stoneOf d [.ref (x.2.2.2 30), .ref (x.2.2.2 73)] M2 (jI fun M3 r2 => JC x jtbC mX5_stoneOf d [.ref (x.2.2.2 30), .ref (x.2.2.2 50)] M3 (jI fun M4 r3 => JC x jtbC mX11_tellFraction d [.ref (x.2.2.2 0), .int r2, .int r3] M4 (jV fun M5 => JC x jtbC mX11_answered d [.ref (x.2.2.2 0), .int r2] M5 (jI fun M6 r4 => P M6 r4)))))) ∧ (¬ r1 = 0 → JC x jtbC mX11_refused d [.ref (x.2.2.2 0), .int r1] M1 (jI fun M7 r5 => P M7 r5)))) :
    JC x jtbC mX11_least (d + 1) [.ref (x.2.2.2 0), .int a1] M (jI P) := by
  refine JC.of rfl (Nat.le_of_ble_eq_true rfl) ?_
  refine jw_ls (ls' := [(0, .ref (x.2.2.2 0)), (1, .int a1)]) rfl ?_
  refine jw_aload_n (pc := 0) (j := 0) dX11_least_0 rfl rfl ?_
  refine jw_iload_n (pc := 1) (j := 1) dX11_least_1 rfl rfl ?_
  refine jw_callV (pc := 2) (m2 := mX11_keptStatus) (As := [.int a1]) (st := []) dX11_least_2 sC_0 (by decide) rfl rfl gm_X11_keptStatus ml_X11_275 rfl (Nat.le_of_ble_eq_true rfl) (JC.mono h ?_)
  clear h
  rintro M1 _ ⟨r1, rfl, h⟩
  refine jw_st (st' := [.int r1]) rfl ?_
  refine jw_istore_n (pc := 5) (ls' := [(2, .int r1), (0, .ref (x.2.2.2 0)), (1, .int a1)]) dX11_least_5 rfl (by decide) rfl ?_
  refine jw_iload_n (pc := 6) (j := 0) dX11_least_6 rfl rfl ?_
  refine jw_if_eq (pc := 7) (tgt := 16) dX11_least_7 (by decide) (fun c => ?_) (fun c => ?_)
  · replace h := h.1 c
    refine jw_aload_n (pc := 16) (j := 1) dX11_least_16 rfl rfl ?_
    refine jw_getR (pc := 17) (r := 49) dX11_least_17 sC_0 fl_X11_47 (by decide) rfl rfl ?_
    refine jw_aload_n (pc := 20) (j := 1) dX11_least_20 rfl rfl ?_
    refine jw_getR (pc := 21) (r := 29) dX11_least_21 sC_0 fl_X11_36 (by decide) rfl rfl ?_
    refine jw_getR (pc := 24) (r := 30) dX11_least_24 sC_29 fl_X11_157 (by decide) rfl rfl ?_
    refine jw_aload_n (pc := 27) (j := 1) dX11_least_27 rfl rfl ?_
    refine jw_getR (pc := 28) (r := 73) dX11_least_28 sC_0 fl_X11_69 (by decide) rfl rfl ?_
    refine jw_callV (pc := 31) (m2 := mX8_cheapestTown) (As := [.ref (x.2.2.2 30), .ref (x.2.2.2 73)]) (st := []) dX11_least_31 sC_49 (by decide) rfl rfl gm_X8_cheapestTown ml_X11_278 rfl (Nat.le_of_ble_eq_true rfl) (JC.mono h ?_)
    clear h
    rintro M2 _ ⟨rfl, h⟩
    refine jw_st (st' := []) rfl ?_
    refine jw_aload_n (pc := 34) (j := 1) dX11_least_34 rfl rfl ?_
    refine jw_getR (pc := 35) (r := 29) dX11_least_35 sC_0 fl_X11_36 (by decide) rfl rfl ?_
    refine jw_getR (pc := 38) (r := 30) dX11_least_38 sC_29 fl_X11_157 (by decide) rfl rfl ?_
    refine jw_aload_n (pc := 41) (j := 1) dX11_least_41 rfl rfl ?_
    refine jw_getR (pc := 42) (r := 73) dX11_least_42 sC_0 fl_X11_69 (by decide) rfl rfl ?_
    refine jw_callV (pc := 45) (m2 := mX5_stoneOf) (As := [.ref (x.2.2.2 73)]) (st := []) dX11_least_45 sC_30 (by decide) rfl rfl gm_X5_stoneOf ml_X11_256 rfl (Nat.le_of_ble_eq_true rfl) (JC.mono h ?_)
    clear h
    rintro M3 _ ⟨r2, rfl, h⟩
    refine jw_st (st' := [.int r2]) rfl ?_
    refine jw_istore_n (pc := 48) (ls' := [(3, .int r2), (2, .int r1), (0, .ref (x.2.2.2 0)), (1, .int a1)]) dX11_least_48 rfl (by decide) rfl ?_
    refine jw_aload_n (pc := 49) (j := 2) dX11_least_49 rfl rfl ?_
    refine jw_getR (pc := 50) (r := 29) dX11_least_50 sC_0 fl_X11_36 (by decide) rfl rfl ?_
    refine jw_getR (pc := 53) (r := 30) dX11_least_53 sC_29 fl_X11_157 (by decide) rfl rfl ?_
    refine jw_aload_n (pc := 56) (j := 2) dX11_least_56 rfl rfl ?_
    refine jw_getR (pc := 57) (r := 49) dX11_least_57 sC_0 fl_X11_47 (by decide) rfl rfl ?_
    refine jw_getR (pc := 60) (r := 50) dX11_least_60 sC_49 fl_X11_266 (by decide) rfl rfl ?_
    refine jw_callV (pc := 63) (m2 := mX5_stoneOf) (As := [.ref (x.2.2.2 50)]) (st := []) dX11_least_63 sC_30 (by decide) rfl rfl gm_X5_stoneOf ml_X11_256 rfl (Nat.le_of_ble_eq_true rfl) (JC.mono h ?_)
    clear h
    rintro M4 _ ⟨r3, rfl, h⟩
    refine jw_st (st' := [.int r3]) rfl ?_
    refine jw_istore (pc := 66) (ls' := [(4, .int r3), (3, .int r2), (2, .int r1), (0, .ref (x.2.2.2 0)), (1, .int a1)]) dX11_least_66 (by decide) rfl ?_
    refine jw_aload_n (pc := 68) (j := 3) dX11_least_68 rfl rfl ?_
    refine jw_iload_n (pc := 69) (j := 1) dX11_least_69 rfl rfl ?_
    refine jw_iload (pc := 70) (j := 0) dX11_least_70 rfl ?_
    refine jw_callV (pc := 72) (m2 := mX11_tellFraction) (As := [.int r2, .int r3]) (st := []) dX11_least_72 sC_0 (by decide) rfl rfl gm_X11_tellFraction ml_X11_282 rfl (Nat.le_of_ble_eq_true rfl) (JC.mono h ?_)
    clear h
    rintro M5 _ ⟨rfl, h⟩
    refine jw_st (st' := []) rfl ?_
    refine jw_aload_n (pc := 75) (j := 3) dX11_least_75 rfl rfl ?_
    refine jw_iload_n (pc := 76) (j := 1) dX11_least_76 rfl rfl ?_
    refine jw_callV (pc := 77) (m2 := mX11_answered) (As := [.int r2]) (st := []) dX11_least_77 sC_0 (by decide) rfl rfl gm_X11_answered ml_X11_165 rfl (Nat.le_of_ble_eq_true rfl) (JC.mono h ?_)
    clear h
    rintro M6 _ ⟨r4, rfl, h⟩
    refine jw_st (st' := [.int r4]) rfl ?_
    exact jw_iret (pc := 80) dX11_least_80 rfl ⟨_, rfl, h⟩
  · replace h := h.2 c
    refine jw_aload_n (pc := 10) (j := 1) dX11_least_10 rfl rfl ?_
    refine jw_iload_n (pc := 11) (j := 0) dX11_least_11 rfl rfl ?_
    refine jw_callV (pc := 12) (m2 := mX11_refused) (As := [.int r1]) (st := []) dX11_least_12 sC_0 (by decide) rfl rfl gm_X11_refused ml_X11_106 rfl (Nat.le_of_ble_eq_true rfl) (JC.mono h ?_)
    clear h
    rintro M7 _ ⟨r5, rfl, h⟩
    refine jw_st (st' := [.int r5]) rfl ?_
    exact jw_iret (pc := 15) dX11_least_15 rfl ⟨_, rfl, h⟩
set_option maxRecDepth 20000 in
theorem b_X11_courts {x : jX} {d : Nat} {M : jM} {P : jM → Int32 → Prop} {a1 : Int32} 
    (h : JC x jtbC mX11_keptStatus d [.ref (x.2.2.2 0), .int a1] M (jI fun M1 r1 => (r1 = 0 → JC x jtbC mX8_fewestRaised d [.ref (x.2.2.2 49), .ref (x.2.2.2 30)] M1 (jI fun M2 r2 => JC x jtbC mX11_answered d [.ref (x.2.2.2 0), .int ((M1.1 30 2) - r2)] M2 (jI fun M3 r3 => P M3 r3))) ∧ (¬ r1 = 0 → JC x jtbC mX11_refused d [.ref (x.2.2.2 0), .int r1] M1 (jI fun M4 r4 => P M4 r4)))) :
    JC x jtbC mX11_courts (d + 1) [.ref (x.2.2.2 0), .int a1] M (jI P) := by
  refine JC.of rfl (Nat.le_of_ble_eq_true rfl) ?_
  refine jw_ls (ls' := [(0, .ref (x.2.2.2 0)), (1, .int a1)]) rfl ?_
  refine jw_aload_n (pc := 0) (j := 0) dX11_courts_0 rfl rfl ?_
  refine jw_iload_n (pc := 1) (j := 1) dX11_courts_1 rfl rfl ?_
  refine jw_callV (pc := 2) (m2 := mX11_keptStatus) (As := [.int a1]) (st := []) dX11_courts_2 sC_0 (by decide) rfl rfl gm_X11_keptStatus ml_X11_275 rfl (Nat.le_of_ble_eq_true rfl) (JC.mono h ?_)
  clear h
  rintro M1 _ ⟨r1, rfl, h⟩
  refine jw_st (st' := [.int r1]) rfl ?_
  refine jw_istore_n (pc := 5) (ls' := [(2, .int r1), (0, .ref (x.2.2.2 0)), (1, .int a1)]) dX11_courts_5 rfl (by decide) rfl ?_
  refine jw_iload_n (pc := 6) (j := 0) dX11_courts_6 rfl rfl ?_
  refine jw_if_eq (pc := 7) (tgt := 16) dX11_courts_7 (by decide) (fun c => ?_) (fun c => ?_)
  · replace h := h.1 c
    refine jw_aload_n (pc := 16) (j := 1) dX11_courts_16 rfl rfl ?_
    refine jw_aload_n (pc := 17) (j := 1) dX11_courts_17 rfl rfl ?_
    refine jw_getR (pc := 18) (r := 29) dX11_courts_18 sC_0 fl_X11_36 (by decide) rfl rfl ?_
    refine jw_getR (pc := 21) (r := 30) dX11_courts_21 sC_29 fl_X11_157 (by decide) rfl rfl ?_
    refine jw_getI (pc := 24) dX11_courts_24 sC_30 fl_X11_160 (by decide) rfl ?_
    refine jw_aload_n (pc := 27) (j := 1) dX11_courts_27 rfl rfl ?_
    refine jw_getR (pc := 28) (r := 49) dX11_courts_28 sC_0 fl_X11_47 (by decide) rfl rfl ?_
    refine jw_aload_n (pc := 31) (j := 1) dX11_courts_31 rfl rfl ?_
    refine jw_getR (pc := 32) (r := 29) dX11_courts_32 sC_0 fl_X11_36 (by decide) rfl rfl ?_
    refine jw_getR (pc := 35) (r := 30) dX11_courts_35 sC_29 fl_X11_157 (by decide) rfl rfl ?_
    refine jw_callV (pc := 38) (m2 := mX8_fewestRaised) (As := [.ref (x.2.2.2 30)]) (st := [.int (M1.1 30 2), .ref (x.2.2.2 0)]) dX11_courts_38 sC_49 (by decide) rfl rfl gm_X8_fewestRaised ml_X11_285 rfl (Nat.le_of_ble_eq_true rfl) (JC.mono h ?_)
    clear h
    rintro M2 _ ⟨r2, rfl, h⟩
    refine jw_st (st' := [.int r2, .int (M1.1 30 2), .ref (x.2.2.2 0)]) rfl ?_
    refine jw_isub (pc := 41) dX11_courts_41 ?_
    refine jw_callV (pc := 42) (m2 := mX11_answered) (As := [.int ((M1.1 30 2) - r2)]) (st := []) dX11_courts_42 sC_0 (by decide) rfl rfl gm_X11_answered ml_X11_165 rfl (Nat.le_of_ble_eq_true rfl) (JC.mono h ?_)
    clear h
    rintro M3 _ ⟨r3, rfl, h⟩
    refine jw_st (st' := [.int r3]) rfl ?_
    exact jw_iret (pc := 45) dX11_courts_45 rfl ⟨_, rfl, h⟩
  · replace h := h.2 c
    refine jw_aload_n (pc := 10) (j := 1) dX11_courts_10 rfl rfl ?_
    refine jw_iload_n (pc := 11) (j := 0) dX11_courts_11 rfl rfl ?_
    refine jw_callV (pc := 12) (m2 := mX11_refused) (As := [.int r1]) (st := []) dX11_courts_12 sC_0 (by decide) rfl rfl gm_X11_refused ml_X11_106 rfl (Nat.le_of_ble_eq_true rfl) (JC.mono h ?_)
    clear h
    rintro M4 _ ⟨r4, rfl, h⟩
    refine jw_st (st' := [.int r4]) rfl ?_
    exact jw_iret (pc := 15) dX11_courts_15 rfl ⟨_, rfl, h⟩
set_option maxRecDepth 20000 in
theorem b_X11_towns {x : jX} {d : Nat} {M : jM} {P : jM → Int32 → Prop} {a1 : Int32} 
    (h : JC x jtbC mX5_hasSet d [.ref (x.2.2.2 30), .int a1] M (jZ fun M1 b1 => (b1 = true → JC x jtbC mX5_stripsPromised d [.ref (x.2.2.2 30), .int a1] M1 (jI fun M2 r1 => (r1 ≤ (16 : Int32) → JC x jtbC mX11_canKeep d [.ref (x.2.2.2 0), .int a1] M2 (jZ fun M3 b2 => (b2 = false → JC x jtbC mX11_answered d [.ref (x.2.2.2 0), .int (0 : Int32)] M3 (jI fun M4 r2 => P M4 r2)) ∧ (b2 = true → JC x jtbC mX8_countTowns d [.ref (x.2.2.2 49), .ref (x.2.2.2 30)] M3 (jI fun M5 r3 => JC x jtbC mX11_answered d [.ref (x.2.2.2 0), .int r3] M5 (jI fun M6 r4 => P M6 r4))))) ∧ (¬ r1 ≤ (16 : Int32) → JC x jtbC mX11_refused d [.ref (x.2.2.2 0), .int (7 : Int32)] M2 (jI fun M7 r5 => P M7 r5)))) ∧ (b1 = false → JC x jtbC mX11_refused d [.ref (x.2.2.2 0), .int (2 : Int32)] M1 (jI fun M8 r6 => P M8 r6)))) :
    JC x jtbC mX11_towns (d + 1) [.ref (x.2.2.2 0), .int a1] M (jI P) := by
  refine JC.of rfl (Nat.le_of_ble_eq_true rfl) ?_
  refine jw_ls (ls' := [(0, .ref (x.2.2.2 0)), (1, .int a1)]) rfl ?_
  refine jw_aload_n (pc := 0) (j := 0) dX11_towns_0 rfl rfl ?_
  refine jw_getR (pc := 1) (r := 29) dX11_towns_1 sC_0 fl_X11_36 (by decide) rfl rfl ?_
  refine jw_getR (pc := 4) (r := 30) dX11_towns_4 sC_29 fl_X11_157 (by decide) rfl rfl ?_
  refine jw_iload_n (pc := 7) (j := 1) dX11_towns_7 rfl rfl ?_
  refine jw_callV (pc := 8) (m2 := mX5_hasSet) (As := [.int a1]) (st := []) dX11_towns_8 sC_30 (by decide) rfl rfl gm_X5_hasSet ml_X11_259 rfl (Nat.le_of_ble_eq_true rfl) (JC.mono h ?_)
  clear h
  rintro M1 _ ⟨b1, rfl, h⟩
  refine jw_st (st' := [.int (jb b1)]) rfl ?_
  refine jw_if_ne (pc := 11) (tgt := 20) dX11_towns_11 (by decide) (fun c => ?_) (fun c => ?_)
  · replace h := h.1 (jb_ne c)
    refine jw_aload_n (pc := 20) (j := 0) dX11_towns_20 rfl rfl ?_
    refine jw_getR (pc := 21) (r := 29) dX11_towns_21 sC_0 fl_X11_36 (by decide) rfl rfl ?_
    refine jw_getR (pc := 24) (r := 30) dX11_towns_24 sC_29 fl_X11_157 (by decide) rfl rfl ?_
    refine jw_iload_n (pc := 27) (j := 1) dX11_towns_27 rfl rfl ?_
    refine jw_callV (pc := 28) (m2 := mX5_stripsPromised) (As := [.int a1]) (st := []) dX11_towns_28 sC_30 (by decide) rfl rfl gm_X5_stripsPromised ml_X11_289 rfl (Nat.le_of_ble_eq_true rfl) (JC.mono h ?_)
    clear h
    rintro M2 _ ⟨r1, rfl, h⟩
    refine jw_st (st' := [.int r1]) rfl ?_
    refine jw_bipush (pc := 31) (v := 16) dX11_towns_31 rfl ?_
    refine jw_icmp_le (pc := 33) (tgt := 43) dX11_towns_33 (by decide) (fun c => ?_) (fun c => ?_)
    · replace h := h.1 c
      refine jw_aload_n (pc := 43) (j := 0) dX11_towns_43 rfl rfl ?_
      refine jw_aload_n (pc := 44) (j := 0) dX11_towns_44 rfl rfl ?_
      refine jw_iload_n (pc := 45) (j := 1) dX11_towns_45 rfl rfl ?_
      refine jw_callV (pc := 46) (m2 := mX11_canKeep) (As := [.int a1]) (st := [.ref (x.2.2.2 0)]) dX11_towns_46 sC_0 (by decide) rfl rfl gm_X11_canKeep ml_X11_269 rfl (Nat.le_of_ble_eq_true rfl) (JC.mono h ?_)
      clear h
      rintro M3 _ ⟨b2, rfl, h⟩
      refine jw_st (st' := [.int (jb b2), .ref (x.2.2.2 0)]) rfl ?_
      refine jw_if_eq (pc := 49) (tgt := 69) dX11_towns_49 (by decide) (fun c => ?_) (fun c => ?_)
      · replace h := h.1 ((jb_0 _).mp c)
        refine jw_iconst (pc := 69) (v := 0) dX11_towns_69 rfl ?_
        refine jw_callV (pc := 70) (m2 := mX11_answered) (As := [.int (0 : Int32)]) (st := []) dX11_towns_70 sC_0 (by decide) rfl rfl gm_X11_answered ml_X11_165 rfl (Nat.le_of_ble_eq_true rfl) (JC.mono h ?_)
        clear h
        rintro M4 _ ⟨r2, rfl, h⟩
        refine jw_st (st' := [.int r2]) rfl ?_
        exact jw_iret (pc := 73) dX11_towns_73 rfl ⟨_, rfl, h⟩
      · replace h := h.2 (jb_ne c)
        refine jw_aload_n (pc := 52) (j := 0) dX11_towns_52 rfl rfl ?_
        refine jw_getR (pc := 53) (r := 49) dX11_towns_53 sC_0 fl_X11_47 (by decide) rfl rfl ?_
        refine jw_aload_n (pc := 56) (j := 0) dX11_towns_56 rfl rfl ?_
        refine jw_getR (pc := 57) (r := 29) dX11_towns_57 sC_0 fl_X11_36 (by decide) rfl rfl ?_
        refine jw_getR (pc := 60) (r := 30) dX11_towns_60 sC_29 fl_X11_157 (by decide) rfl rfl ?_
        refine jw_callV (pc := 63) (m2 := mX8_countTowns) (As := [.ref (x.2.2.2 30)]) (st := [.ref (x.2.2.2 0)]) dX11_towns_63 sC_49 (by decide) rfl rfl gm_X8_countTowns ml_X11_292 rfl (Nat.le_of_ble_eq_true rfl) (JC.mono h ?_)
        clear h
        rintro M5 _ ⟨r3, rfl, h⟩
        refine jw_st (st' := [.int r3, .ref (x.2.2.2 0)]) rfl ?_
        refine jw_goto (pc := 66) (tgt := 70) dX11_towns_66 (by decide) ?_
        refine jw_callV (pc := 70) (m2 := mX11_answered) (As := [.int r3]) (st := []) dX11_towns_70 sC_0 (by decide) rfl rfl gm_X11_answered ml_X11_165 rfl (Nat.le_of_ble_eq_true rfl) (JC.mono h ?_)
        clear h
        rintro M6 _ ⟨r4, rfl, h⟩
        refine jw_st (st' := [.int r4]) rfl ?_
        exact jw_iret (pc := 73) dX11_towns_73 rfl ⟨_, rfl, h⟩
    · replace h := h.2 c
      refine jw_aload_n (pc := 36) (j := 0) dX11_towns_36 rfl rfl ?_
      refine jw_bipush (pc := 37) (v := 7) dX11_towns_37 rfl ?_
      refine jw_callV (pc := 39) (m2 := mX11_refused) (As := [.int (7 : Int32)]) (st := []) dX11_towns_39 sC_0 (by decide) rfl rfl gm_X11_refused ml_X11_106 rfl (Nat.le_of_ble_eq_true rfl) (JC.mono h ?_)
      clear h
      rintro M7 _ ⟨r5, rfl, h⟩
      refine jw_st (st' := [.int r5]) rfl ?_
      exact jw_iret (pc := 42) dX11_towns_42 rfl ⟨_, rfl, h⟩
  · replace h := h.2 ((jb_0 _).mp c)
    refine jw_aload_n (pc := 14) (j := 0) dX11_towns_14 rfl rfl ?_
    refine jw_iconst (pc := 15) (v := 2) dX11_towns_15 rfl ?_
    refine jw_callV (pc := 16) (m2 := mX11_refused) (As := [.int (2 : Int32)]) (st := []) dX11_towns_16 sC_0 (by decide) rfl rfl gm_X11_refused ml_X11_106 rfl (Nat.le_of_ble_eq_true rfl) (JC.mono h ?_)
    clear h
    rintro M8 _ ⟨r6, rfl, h⟩
    refine jw_st (st' := [.int r6]) rfl ?_
    exact jw_iret (pc := 19) dX11_towns_19 rfl ⟨_, rfl, h⟩
set_option maxRecDepth 20000 in
theorem b_X11_sure {x : jX} {d : Nat} {M : jM} {P : jM → Int32 → Prop} {a1 : Int32} {a2 : Int32} {a3 : Int32} 
    (h : JC x jtbC mX5_hasSet d [.ref (x.2.2.2 30), .int a1] M (jZ fun M1 b1 => (b1 = false → JC x jtbC mX11_refused d [.ref (x.2.2.2 0), .int (2 : Int32)] M1 (jI fun M2 r1 => P M2 r1)) ∧ (b1 = true → JC x jtbC mX5_hasCell d [.ref (x.2.2.2 30), .int a2] M1 (jZ fun M3 b2 => (b2 = true → (a3 = 0 → JW x jtbC mX11_sure (d + 1) (jI P) 49 [(0, .ref (x.2.2.2 0)), (1, .int a1), (2, .int a2), (3, .int a3)] [] M3) ∧ (¬ a3 = 0 → (a3 = (1 : Int32) → JW x jtbC mX11_sure (d + 1) (jI P) 49 [(0, .ref (x.2.2.2 0)), (1, .int a1), (2, .int a2), (3, .int a3)] [] M3) ∧ (¬ a3 = (1 : Int32) → JC x jtbC mX11_refused d [.ref (x.2.2.2 0), .int (5 : Int32)] M3 (jI fun M4 r2 => P M4 r2)))) ∧ (b2 = false → JC x jtbC mX11_refused d [.ref (x.2.2.2 0), .int (2 : Int32)] M3 (jI fun M5 r3 => P M5 r3)))))) :
    JC x jtbC mX11_sure (d + 1) [.ref (x.2.2.2 0), .int a1, .int a2, .int a3] M (jI P) := by
  refine JC.of rfl (Nat.le_of_ble_eq_true rfl) ?_
  refine jw_ls (ls' := [(0, .ref (x.2.2.2 0)), (1, .int a1), (2, .int a2), (3, .int a3)]) rfl ?_
  refine jw_aload_n (pc := 0) (j := 0) dX11_sure_0 rfl rfl ?_
  refine jw_getR (pc := 1) (r := 29) dX11_sure_1 sC_0 fl_X11_36 (by decide) rfl rfl ?_
  refine jw_getR (pc := 4) (r := 30) dX11_sure_4 sC_29 fl_X11_157 (by decide) rfl rfl ?_
  refine jw_iload_n (pc := 7) (j := 1) dX11_sure_7 rfl rfl ?_
  refine jw_callV (pc := 8) (m2 := mX5_hasSet) (As := [.int a1]) (st := []) dX11_sure_8 sC_30 (by decide) rfl rfl gm_X5_hasSet ml_X11_259 rfl (Nat.le_of_ble_eq_true rfl) (JC.mono h ?_)
  clear h
  rintro M1 _ ⟨b1, rfl, h⟩
  refine jw_st (st' := [.int (jb b1)]) rfl ?_
  refine jw_if_eq (pc := 11) (tgt := 28) dX11_sure_11 (by decide) (fun c => ?_) (fun c => ?_)
  · replace h := h.1 ((jb_0 _).mp c)
    refine jw_aload_n (pc := 28) (j := 0) dX11_sure_28 rfl rfl ?_
    refine jw_iconst (pc := 29) (v := 2) dX11_sure_29 rfl ?_
    refine jw_callV (pc := 30) (m2 := mX11_refused) (As := [.int (2 : Int32)]) (st := []) dX11_sure_30 sC_0 (by decide) rfl rfl gm_X11_refused ml_X11_106 rfl (Nat.le_of_ble_eq_true rfl) (JC.mono h ?_)
    clear h
    rintro M2 _ ⟨r1, rfl, h⟩
    refine jw_st (st' := [.int r1]) rfl ?_
    exact jw_iret (pc := 33) dX11_sure_33 rfl ⟨_, rfl, h⟩
  · replace h := h.2 (jb_ne c)
    refine jw_aload_n (pc := 14) (j := 0) dX11_sure_14 rfl rfl ?_
    refine jw_getR (pc := 15) (r := 29) dX11_sure_15 sC_0 fl_X11_36 (by decide) rfl rfl ?_
    refine jw_getR (pc := 18) (r := 30) dX11_sure_18 sC_29 fl_X11_157 (by decide) rfl rfl ?_
    refine jw_iload_n (pc := 21) (j := 2) dX11_sure_21 rfl rfl ?_
    refine jw_callV (pc := 22) (m2 := mX5_hasCell) (As := [.int a2]) (st := []) dX11_sure_22 sC_30 (by decide) rfl rfl gm_X5_hasCell ml_X11_197 rfl (Nat.le_of_ble_eq_true rfl) (JC.mono h ?_)
    clear h
    rintro M3 _ ⟨b2, rfl, h⟩
    refine jw_st (st' := [.int (jb b2)]) rfl ?_
    refine jw_if_ne (pc := 25) (tgt := 34) dX11_sure_25 (by decide) (fun c => ?_) (fun c => ?_)
    · replace h := h.1 (jb_ne c)
      refine jw_iload_n (pc := 34) (j := 3) dX11_sure_34 rfl rfl ?_
      refine jw_if_eq (pc := 35) (tgt := 49) dX11_sure_35 (by decide) (fun c => ?_) (fun c => ?_)
      · replace h := h.1 c
        exact jw_sub [0, 1, 2, 3] rfl h
      · replace h := h.2 c
        refine jw_iload_n (pc := 38) (j := 3) dX11_sure_38 rfl rfl ?_
        refine jw_iconst (pc := 39) (v := 1) dX11_sure_39 rfl ?_
        refine jw_icmp_eq (pc := 40) (tgt := 49) dX11_sure_40 (by decide) (fun c => ?_) (fun c => ?_)
        · replace h := h.1 c
          exact jw_sub [0, 1, 2, 3] rfl h
        · replace h := h.2 c
          refine jw_aload_n (pc := 43) (j := 0) dX11_sure_43 rfl rfl ?_
          refine jw_iconst (pc := 44) (v := 5) dX11_sure_44 rfl ?_
          refine jw_callV (pc := 45) (m2 := mX11_refused) (As := [.int (5 : Int32)]) (st := []) dX11_sure_45 sC_0 (by decide) rfl rfl gm_X11_refused ml_X11_106 rfl (Nat.le_of_ble_eq_true rfl) (JC.mono h ?_)
          clear h
          rintro M4 _ ⟨r2, rfl, h⟩
          refine jw_st (st' := [.int r2]) rfl ?_
          exact jw_iret (pc := 48) dX11_sure_48 rfl ⟨_, rfl, h⟩
    · replace h := h.2 ((jb_0 _).mp c)
      refine jw_aload_n (pc := 28) (j := 0) dX11_sure_28 rfl rfl ?_
      refine jw_iconst (pc := 29) (v := 2) dX11_sure_29 rfl ?_
      refine jw_callV (pc := 30) (m2 := mX11_refused) (As := [.int (2 : Int32)]) (st := []) dX11_sure_30 sC_0 (by decide) rfl rfl gm_X11_refused ml_X11_106 rfl (Nat.le_of_ble_eq_true rfl) (JC.mono h ?_)
      clear h
      rintro M5 _ ⟨r3, rfl, h⟩
      refine jw_st (st' := [.int r3]) rfl ?_
      exact jw_iret (pc := 33) dX11_sure_33 rfl ⟨_, rfl, h⟩
set_option maxRecDepth 20000 in
theorem b_X11_sure_49 {x : jX} {d : Nat} {M : jM} {P : jM → Int32 → Prop} {l1 : Int32} {l2 : Int32} {l3 : Int32} 
    (h : JC x jtbC mX11_canKeep d [.ref (x.2.2.2 0), .int l1] M (jZ fun M1 b1 => (b1 = true → (l3 = (1 : Int32) → JW x jtbC mX11_sure (d + 1) (jI P) 92 [(0, .ref (x.2.2.2 0)), (2, .int l2)] [.int (1 : Int32)] M1) ∧ (¬ l3 = (1 : Int32) → JC x jtbC mX8_mustRaise d [.ref (x.2.2.2 49), .ref (x.2.2.2 30), .int l2] M1 (jZ fun M2 b2 => (b2 = false → JW x jtbC mX11_sure (d + 1) (jI P) 92 [(0, .ref (x.2.2.2 0)), (2, .int l2)] [.int (0 : Int32)] M2) ∧ (b2 = true → JW x jtbC mX11_sure (d + 1) (jI P) 92 [(0, .ref (x.2.2.2 0)), (2, .int l2)] [.int (1 : Int32)] M2)))) ∧ (b1 = false → JC x jtbC mX11_refused d [.ref (x.2.2.2 0), .int (9 : Int32)] M1 (jI fun M3 r1 => P M3 r1)))) :
    JW x jtbC mX11_sure (d + 1) (jI P) 49 [(0, .ref (x.2.2.2 0)), (1, .int l1), (2, .int l2), (3, .int l3)] [] M := by
  refine jw_aload_n (pc := 49) (j := 0) dX11_sure_49 rfl rfl ?_
  refine jw_iload_n (pc := 50) (j := 1) dX11_sure_50 rfl rfl ?_
  refine jw_callV (pc := 51) (m2 := mX11_canKeep) (As := [.int l1]) (st := []) dX11_sure_51 sC_0 (by decide) rfl rfl gm_X11_canKeep ml_X11_269 rfl (Nat.le_of_ble_eq_true rfl) (JC.mono h ?_)
  clear h
  rintro M1 _ ⟨b1, rfl, h⟩
  refine jw_st (st' := [.int (jb b1)]) rfl ?_
  refine jw_if_ne (pc := 54) (tgt := 64) dX11_sure_54 (by decide) (fun c => ?_) (fun c => ?_)
  · replace h := h.1 (jb_ne c)
    refine jw_iload_n (pc := 64) (j := 3) dX11_sure_64 rfl rfl ?_
    refine jw_iconst (pc := 65) (v := 1) dX11_sure_65 rfl ?_
    refine jw_icmp_eq (pc := 66) (tgt := 87) dX11_sure_66 (by decide) (fun c => ?_) (fun c => ?_)
    · replace h := h.1 c
      refine jw_iconst (pc := 87) (v := 1) dX11_sure_87 rfl ?_
      refine jw_goto (pc := 88) (tgt := 92) dX11_sure_88 (by decide) ?_
      exact jw_sub [0, 2] rfl h
    · replace h := h.2 c
      refine jw_aload_n (pc := 69) (j := 0) dX11_sure_69 rfl rfl ?_
      refine jw_getR (pc := 70) (r := 49) dX11_sure_70 sC_0 fl_X11_47 (by decide) rfl rfl ?_
      refine jw_aload_n (pc := 73) (j := 0) dX11_sure_73 rfl rfl ?_
      refine jw_getR (pc := 74) (r := 29) dX11_sure_74 sC_0 fl_X11_36 (by decide) rfl rfl ?_
      refine jw_getR (pc := 77) (r := 30) dX11_sure_77 sC_29 fl_X11_157 (by decide) rfl rfl ?_
      refine jw_iload_n (pc := 80) (j := 2) dX11_sure_80 rfl rfl ?_
      refine jw_callV (pc := 81) (m2 := mX8_mustRaise) (As := [.ref (x.2.2.2 30), .int l2]) (st := []) dX11_sure_81 sC_49 (by decide) rfl rfl gm_X8_mustRaise ml_X11_295 rfl (Nat.le_of_ble_eq_true rfl) (JC.mono h ?_)
      clear h
      rintro M2 _ ⟨b2, rfl, h⟩
      refine jw_st (st' := [.int (jb b2)]) rfl ?_
      refine jw_if_eq (pc := 84) (tgt := 91) dX11_sure_84 (by decide) (fun c => ?_) (fun c => ?_)
      · replace h := h.1 ((jb_0 _).mp c)
        refine jw_iconst (pc := 91) (v := 0) dX11_sure_91 rfl ?_
        exact jw_sub [0, 2] rfl h
      · replace h := h.2 (jb_ne c)
        refine jw_iconst (pc := 87) (v := 1) dX11_sure_87 rfl ?_
        refine jw_goto (pc := 88) (tgt := 92) dX11_sure_88 (by decide) ?_
        exact jw_sub [0, 2] rfl h
  · replace h := h.2 ((jb_0 _).mp c)
    refine jw_aload_n (pc := 57) (j := 0) dX11_sure_57 rfl rfl ?_
    refine jw_bipush (pc := 58) (v := 9) dX11_sure_58 rfl ?_
    refine jw_callV (pc := 60) (m2 := mX11_refused) (As := [.int (9 : Int32)]) (st := []) dX11_sure_60 sC_0 (by decide) rfl rfl gm_X11_refused ml_X11_106 rfl (Nat.le_of_ble_eq_true rfl) (JC.mono h ?_)
    clear h
    rintro M3 _ ⟨r1, rfl, h⟩
    refine jw_st (st' := [.int r1]) rfl ?_
    exact jw_iret (pc := 63) dX11_sure_63 rfl ⟨_, rfl, h⟩
set_option maxRecDepth 20000 in
theorem b_X11_sure_92 {x : jX} {d : Nat} {M : jM} {P : jM → Int32 → Prop} {l2 : Int32} {k0 : Int32} 
    (h : (k0 = 0 → ∃ j1, j1 < 25 ∧ l2 = nI j1 ∧ (JC x jtbC mX11_answered d [.ref (x.2.2.2 0), .int (M.1 32 j1)] M (jI fun M1 r1 => P M1 r1))) ∧ (¬ k0 = 0 → ∃ j2, j2 < 25 ∧ l2 = nI j2 ∧ (JC x jtbC mX11_answered d [.ref (x.2.2.2 0), .int (M.1 50 j2)] M (jI fun M2 r2 => P M2 r2)))) :
    JW x jtbC mX11_sure (d + 1) (jI P) 92 [(0, .ref (x.2.2.2 0)), (2, .int l2)] [.int k0] M := by
  refine jw_istore (pc := 92) (ls' := [(4, .int k0), (0, .ref (x.2.2.2 0)), (2, .int l2)]) dX11_sure_92 (by decide) rfl ?_
  refine jw_aload_n (pc := 94) (j := 1) dX11_sure_94 rfl rfl ?_
  refine jw_iload (pc := 95) (j := 0) dX11_sure_95 rfl ?_
  refine jw_if_eq (pc := 97) (tgt := 112) dX11_sure_97 (by decide) (fun c => ?_) (fun c => ?_)
  · replace h := h.1 c
    refine jw_aload_n (pc := 112) (j := 1) dX11_sure_112 rfl rfl ?_
    refine jw_getR (pc := 113) (r := 29) dX11_sure_113 sC_0 fl_X11_36 (by decide) rfl rfl ?_
    refine jw_getR (pc := 116) (r := 30) dX11_sure_116 sC_29 fl_X11_157 (by decide) rfl rfl ?_
    refine jw_getR (pc := 119) (r := 32) dX11_sure_119 sC_30 fl_X11_203 (by decide) rfl rfl ?_
    refine jw_iload_n (pc := 122) (j := 2) dX11_sure_122 rfl rfl ?_
    obtain ⟨j1, hj1, ej1, h⟩ := h
    refine jw_iald (pc := 123) (j := j1) dX11_sure_123 sC_32 hj1 ej1 (by decide) ?_
    refine jw_callV (pc := 124) (m2 := mX11_answered) (As := [.int (M.1 32 j1)]) (st := []) dX11_sure_124 sC_0 (by decide) rfl rfl gm_X11_answered ml_X11_165 rfl (Nat.le_of_ble_eq_true rfl) (JC.mono h ?_)
    clear h
    rintro M1 _ ⟨r1, rfl, h⟩
    refine jw_st (st' := [.int r1]) rfl ?_
    exact jw_iret (pc := 127) dX11_sure_127 rfl ⟨_, rfl, h⟩
  · replace h := h.2 c
    refine jw_aload_n (pc := 100) (j := 1) dX11_sure_100 rfl rfl ?_
    refine jw_getR (pc := 101) (r := 49) dX11_sure_101 sC_0 fl_X11_47 (by decide) rfl rfl ?_
    refine jw_getR (pc := 104) (r := 50) dX11_sure_104 sC_49 fl_X11_266 (by decide) rfl rfl ?_
    refine jw_iload_n (pc := 107) (j := 2) dX11_sure_107 rfl rfl ?_
    obtain ⟨j2, hj2, ej2, h⟩ := h
    refine jw_iald (pc := 108) (j := j2) dX11_sure_108 sC_50 hj2 ej2 (by decide) ?_
    refine jw_goto (pc := 109) (tgt := 124) dX11_sure_109 (by decide) ?_
    refine jw_callV (pc := 124) (m2 := mX11_answered) (As := [.int (M.1 50 j2)]) (st := []) dX11_sure_124 sC_0 (by decide) rfl rfl gm_X11_answered ml_X11_165 rfl (Nat.le_of_ble_eq_true rfl) (JC.mono h ?_)
    clear h
    rintro M2 _ ⟨r2, rfl, h⟩
    refine jw_st (st' := [.int r2]) rfl ?_
    exact jw_iret (pc := 127) dX11_sure_127 rfl ⟨_, rfl, h⟩
set_option maxRecDepth 20000 in
theorem b_X11_struck {x : jX} {d : Nat} {M : jM} {P : jM → Int32 → Prop}  
    (h : JW x jtbC mX11_struck (d + 1) (jI P) 19 [(0, .ref (x.2.2.2 0)), (1, .int (((1 : Int32) <<< ((M.1 30 3) &&& 31)) - (1 : Int32))), (2, .int (-1 : Int32)), (3, .int (0 : Int32))] [] M) :
    JC x jtbC mX11_struck (d + 1) [.ref (x.2.2.2 0)] M (jI P) := by
  refine JC.of rfl (Nat.le_of_ble_eq_true rfl) ?_
  refine jw_ls (ls' := [(0, .ref (x.2.2.2 0))]) rfl ?_
  refine jw_iconst (pc := 0) (v := 1) dX11_struck_0 rfl ?_
  refine jw_aload_n (pc := 1) (j := 0) dX11_struck_1 rfl rfl ?_
  refine jw_getR (pc := 2) (r := 29) dX11_struck_2 sC_0 fl_X11_36 (by decide) rfl rfl ?_
  refine jw_getR (pc := 5) (r := 30) dX11_struck_5 sC_29 fl_X11_157 (by decide) rfl rfl ?_
  refine jw_getI (pc := 8) dX11_struck_8 sC_30 fl_X11_194 (by decide) rfl ?_
  refine jw_ishl (pc := 11) dX11_struck_11 ?_
  refine jw_iconst (pc := 12) (v := 1) dX11_struck_12 rfl ?_
  refine jw_isub (pc := 13) dX11_struck_13 ?_
  refine jw_istore_n (pc := 14) (ls' := [(1, .int (((1 : Int32) <<< ((M.1 30 3) &&& 31)) - (1 : Int32))), (0, .ref (x.2.2.2 0))]) dX11_struck_14 rfl (by decide) rfl ?_
  refine jw_iconst (pc := 15) (v := (-1)) dX11_struck_15 rfl ?_
  refine jw_istore_n (pc := 16) (ls' := [(2, .int (-1 : Int32)), (1, .int (((1 : Int32) <<< ((M.1 30 3) &&& 31)) - (1 : Int32))), (0, .ref (x.2.2.2 0))]) dX11_struck_16 rfl (by decide) rfl ?_
  refine jw_iconst (pc := 17) (v := 0) dX11_struck_17 rfl ?_
  refine jw_istore_n (pc := 18) (ls' := [(3, .int (0 : Int32)), (2, .int (-1 : Int32)), (1, .int (((1 : Int32) <<< ((M.1 30 3) &&& 31)) - (1 : Int32))), (0, .ref (x.2.2.2 0))]) dX11_struck_18 rfl (by decide) rfl ?_
  exact jw_sub [3, 2, 1, 0] rfl h
set_option maxRecDepth 20000 in
theorem b_X11_struck_19 {x : jX} {d : Nat} {M : jM} {P : jM → Int32 → Prop} {l1 : Int32} {l2 : Int32} {l3 : Int32} 
    (h : (l1 < l3 → (¬ l2 = (-1 : Int32) → JC x jtbC mX11_answered d [.ref (x.2.2.2 0), .int l2] M (jI fun M1 r1 => P M1 r1)) ∧ (l2 = (-1 : Int32) → JC x jtbC mX11_refused d [.ref (x.2.2.2 0), .int (9 : Int32)] M (jI fun M2 r2 => P M2 r2))) ∧ (¬ l1 < l3 → (l2 = (-1 : Int32) → JW x jtbC mX11_struck (d + 1) (jI P) 45 [(0, .ref (x.2.2.2 0)), (1, .int l1), (2, .int l2), (3, .int l3)] [.int (1 : Int32)] M) ∧ (¬ l2 = (-1 : Int32) → JC x jtbC mJ6_bitCount_0f7a4 d [.int l3] M (jI fun M3 r3 => JC x jtbC mJ6_bitCount_0f7a4 d [.int l2] M3 (jI fun M4 r4 => (r4 ≤ r3 → JW x jtbC mX11_struck (d + 1) (jI P) 45 [(0, .ref (x.2.2.2 0)), (1, .int l1), (2, .int l2), (3, .int l3)] [.int (0 : Int32)] M4) ∧ (¬ r4 ≤ r3 → JW x jtbC mX11_struck (d + 1) (jI P) 45 [(0, .ref (x.2.2.2 0)), (1, .int l1), (2, .int l2), (3, .int l3)] [.int (1 : Int32)] M4)))))) :
    JW x jtbC mX11_struck (d + 1) (jI P) 19 [(0, .ref (x.2.2.2 0)), (1, .int l1), (2, .int l2), (3, .int l3)] [] M := by
  refine jw_iload_n (pc := 19) (j := 3) dX11_struck_19 rfl rfl ?_
  refine jw_iload_n (pc := 20) (j := 1) dX11_struck_20 rfl rfl ?_
  refine jw_icmp_gt (pc := 21) (tgt := 72) dX11_struck_21 (by decide) (fun c => ?_) (fun c => ?_)
  · replace h := h.1 c
    refine jw_iload_n (pc := 72) (j := 2) dX11_struck_72 rfl rfl ?_
    refine jw_iconst (pc := 73) (v := (-1)) dX11_struck_73 rfl ?_
    refine jw_icmp_ne (pc := 74) (tgt := 86) dX11_struck_74 (by decide) (fun c => ?_) (fun c => ?_)
    · replace h := h.1 c
      refine jw_aload_n (pc := 86) (j := 0) dX11_struck_86 rfl rfl ?_
      refine jw_iload_n (pc := 87) (j := 2) dX11_struck_87 rfl rfl ?_
      refine jw_callV (pc := 88) (m2 := mX11_answered) (As := [.int l2]) (st := []) dX11_struck_88 sC_0 (by decide) rfl rfl gm_X11_answered ml_X11_165 rfl (Nat.le_of_ble_eq_true rfl) (JC.mono h ?_)
      clear h
      rintro M1 _ ⟨r1, rfl, h⟩
      refine jw_st (st' := [.int r1]) rfl ?_
      exact jw_iret (pc := 91) dX11_struck_91 rfl ⟨_, rfl, h⟩
    · replace h := h.2 c
      refine jw_aload_n (pc := 77) (j := 0) dX11_struck_77 rfl rfl ?_
      refine jw_bipush (pc := 78) (v := 9) dX11_struck_78 rfl ?_
      refine jw_callV (pc := 80) (m2 := mX11_refused) (As := [.int (9 : Int32)]) (st := []) dX11_struck_80 sC_0 (by decide) rfl rfl gm_X11_refused ml_X11_106 rfl (Nat.le_of_ble_eq_true rfl) (JC.mono h ?_)
      clear h
      rintro M2 _ ⟨r2, rfl, h⟩
      refine jw_st (st' := [.int r2]) rfl ?_
      refine jw_goto (pc := 83) (tgt := 91) dX11_struck_83 (by decide) ?_
      exact jw_iret (pc := 91) dX11_struck_91 rfl ⟨_, rfl, h⟩
  · replace h := h.2 c
    refine jw_iload_n (pc := 24) (j := 2) dX11_struck_24 rfl rfl ?_
    refine jw_iconst (pc := 25) (v := (-1)) dX11_struck_25 rfl ?_
    refine jw_icmp_eq (pc := 26) (tgt := 40) dX11_struck_26 (by decide) (fun c => ?_) (fun c => ?_)
    · replace h := h.1 c
      refine jw_iconst (pc := 40) (v := 1) dX11_struck_40 rfl ?_
      refine jw_goto (pc := 41) (tgt := 45) dX11_struck_41 (by decide) ?_
      exact jw_sub [0, 1, 2, 3] rfl h
    · replace h := h.2 c
      refine jw_iload_n (pc := 29) (j := 3) dX11_struck_29 rfl rfl ?_
      refine jw_callS (pc := 30) (m2 := mJ6_bitCount_0f7a4) (As := [.int l3]) (st := []) dX11_struck_30 gm_J6_bitCount_0f7a4 ml_X11_299 rfl (Nat.le_of_ble_eq_true rfl) (JC.mono h ?_)
      clear h
      rintro M3 _ ⟨r3, rfl, h⟩
      refine jw_st (st' := [.int r3]) rfl ?_
      refine jw_iload_n (pc := 33) (j := 2) dX11_struck_33 rfl rfl ?_
      refine jw_callS (pc := 34) (m2 := mJ6_bitCount_0f7a4) (As := [.int l2]) (st := [.int r3]) dX11_struck_34 gm_J6_bitCount_0f7a4 ml_X11_299 rfl (Nat.le_of_ble_eq_true rfl) (JC.mono h ?_)
      clear h
      rintro M4 _ ⟨r4, rfl, h⟩
      refine jw_st (st' := [.int r4, .int r3]) rfl ?_
      refine jw_icmp_ge (pc := 37) (tgt := 44) dX11_struck_37 (by decide) (fun c => ?_) (fun c => ?_)
      · replace h := h.1 c
        refine jw_iconst (pc := 44) (v := 0) dX11_struck_44 rfl ?_
        exact jw_sub [0, 1, 2, 3] rfl h
      · replace h := h.2 c
        refine jw_iconst (pc := 40) (v := 1) dX11_struck_40 rfl ?_
        refine jw_goto (pc := 41) (tgt := 45) dX11_struck_41 (by decide) ?_
        exact jw_sub [0, 1, 2, 3] rfl h
set_option maxRecDepth 20000 in
theorem b_X11_struck_45 {x : jX} {d : Nat} {M : jM} {P : jM → Int32 → Prop} {l1 : Int32} {l2 : Int32} {l3 : Int32} {k0 : Int32} 
    (h : (k0 = 0 → JW x jtbC mX11_struck (d + 1) (jI P) 19 [(0, .ref (x.2.2.2 0)), (1, .int l1), (2, .int l2), (3, .int (l3 + 1))] [] M) ∧ (¬ k0 = 0 → JC x jtbC mX11_canKeep d [.ref (x.2.2.2 0), .int (l1 &&& (l3 ^^^ (-1 : Int32)))] M (jZ fun M1 b1 => (b1 = false → JW x jtbC mX11_struck (d + 1) (jI P) 19 [(0, .ref (x.2.2.2 0)), (1, .int l1), (2, .int l2), (3, .int (l3 + 1))] [] M1) ∧ (b1 = true → JW x jtbC mX11_struck (d + 1) (jI P) 19 [(0, .ref (x.2.2.2 0)), (1, .int l1), (2, .int l3), (3, .int (l3 + 1))] [] M1)))) :
    JW x jtbC mX11_struck (d + 1) (jI P) 45 [(0, .ref (x.2.2.2 0)), (1, .int l1), (2, .int l2), (3, .int l3)] [.int k0] M := by
  refine jw_istore (pc := 45) (ls' := [(4, .int k0), (0, .ref (x.2.2.2 0)), (1, .int l1), (2, .int l2), (3, .int l3)]) dX11_struck_45 (by decide) rfl ?_
  refine jw_iload (pc := 47) (j := 0) dX11_struck_47 rfl ?_
  refine jw_if_eq (pc := 49) (tgt := 66) dX11_struck_49 (by decide) (fun c => ?_) (fun c => ?_)
  · replace h := h.1 c
    refine jw_iinc (pc := 66) (j := 4) (u := l3 + 1) (ls' := [(3, .int (l3 + 1)), (4, .int k0), (0, .ref (x.2.2.2 0)), (1, .int l1), (2, .int l2)]) dX11_struck_66 rfl rfl (by decide) rfl ?_
    refine jw_goto (pc := 69) (tgt := 19) dX11_struck_69 (by decide) ?_
    exact jw_sub [2, 3, 4, 0] rfl h
  · replace h := h.2 c
    refine jw_aload_n (pc := 52) (j := 1) dX11_struck_52 rfl rfl ?_
    refine jw_iload_n (pc := 53) (j := 2) dX11_struck_53 rfl rfl ?_
    refine jw_iload_n (pc := 54) (j := 4) dX11_struck_54 rfl rfl ?_
    refine jw_iconst (pc := 55) (v := (-1)) dX11_struck_55 rfl ?_
    refine jw_ixor (pc := 56) dX11_struck_56 ?_
    refine jw_iand (pc := 57) dX11_struck_57 ?_
    refine jw_callV (pc := 58) (m2 := mX11_canKeep) (As := [.int (l1 &&& (l3 ^^^ (-1 : Int32)))]) (st := []) dX11_struck_58 sC_0 (by decide) rfl rfl gm_X11_canKeep ml_X11_269 rfl (Nat.le_of_ble_eq_true rfl) (JC.mono h ?_)
    clear h
    rintro M1 _ ⟨b1, rfl, h⟩
    refine jw_st (st' := [.int (jb b1)]) rfl ?_
    refine jw_if_eq (pc := 61) (tgt := 66) dX11_struck_61 (by decide) (fun c => ?_) (fun c => ?_)
    · replace h := h.1 ((jb_0 _).mp c)
      refine jw_iinc (pc := 66) (j := 4) (u := l3 + 1) (ls' := [(3, .int (l3 + 1)), (4, .int k0), (0, .ref (x.2.2.2 0)), (1, .int l1), (2, .int l2)]) dX11_struck_66 rfl rfl (by decide) rfl ?_
      refine jw_goto (pc := 69) (tgt := 19) dX11_struck_69 (by decide) ?_
      exact jw_sub [2, 3, 4, 0] rfl h
    · replace h := h.2 (jb_ne c)
      refine jw_iload_n (pc := 64) (j := 4) dX11_struck_64 rfl rfl ?_
      refine jw_istore_n (pc := 65) (ls' := [(2, .int l3), (4, .int k0), (0, .ref (x.2.2.2 0)), (1, .int l1), (3, .int l3)]) dX11_struck_65 rfl (by decide) rfl ?_
      refine jw_iinc (pc := 66) (j := 4) (u := l3 + 1) (ls' := [(3, .int (l3 + 1)), (2, .int l3), (4, .int k0), (0, .ref (x.2.2.2 0)), (1, .int l1)]) dX11_struck_66 rfl rfl (by decide) rfl ?_
      refine jw_goto (pc := 69) (tgt := 19) dX11_struck_69 (by decide) ?_
      exact jw_sub [3, 4, 1, 0] rfl h
set_option maxRecDepth 20000 in
theorem b_X11_down {x : jX} {d : Nat} {M : jM} {P : jM → Int32 → Prop} {a1 : Int32} 
    (h : JC x jtbC mX5_hasCell d [.ref (x.2.2.2 30), .int a1] M (jZ fun M1 b1 => (b1 = true → ∃ c1, M1.1 30 2 = nI c1 ∧ 0 + c1 ≤ 25 ∧ 0 + c1 ≤ 25 ∧ (∀ M2, M2 = jrI M1 73 (va_cpy (M1.1 39) (M1.1 73) 0 0 c1) → ∃ j1, j1 < 25 ∧ a1 = nI j1 ∧ (JC x jtbC mJ9_min_7cf53 d [.int (M2.1 73 j1), .int (M2.1 32 j1)] M2 (jI fun M3 r1 => ∀ M4, M4 = jrI M3 73 (upd (M3.1 73) j1 r1) → JW x jtbC mX11_down (d + 1) (jI P) 68 [(0, .ref (x.2.2.2 0)), (1, .int a1), (2, .ref (x.2.2.2 30)), (3, .int (0 : Int32)), (4, .int (0 : Int32))] [] M4)))) ∧ (b1 = false → JC x jtbC mX11_refused d [.ref (x.2.2.2 0), .int (2 : Int32)] M1 (jI fun M5 r2 => P M5 r2)))) :
    JC x jtbC mX11_down (d + 1) [.ref (x.2.2.2 0), .int a1] M (jI P) := by
  refine JC.of rfl (Nat.le_of_ble_eq_true rfl) ?_
  refine jw_ls (ls' := [(0, .ref (x.2.2.2 0)), (1, .int a1)]) rfl ?_
  refine jw_aload_n (pc := 0) (j := 0) dX11_down_0 rfl rfl ?_
  refine jw_getR (pc := 1) (r := 29) dX11_down_1 sC_0 fl_X11_36 (by decide) rfl rfl ?_
  refine jw_getR (pc := 4) (r := 30) dX11_down_4 sC_29 fl_X11_157 (by decide) rfl rfl ?_
  refine jw_astore_n (pc := 7) (ls' := [(2, .ref (x.2.2.2 30)), (0, .ref (x.2.2.2 0)), (1, .int a1)]) dX11_down_7 rfl (by decide) rfl ?_
  refine jw_aload_n (pc := 8) (j := 0) dX11_down_8 rfl rfl ?_
  refine jw_iload_n (pc := 9) (j := 2) dX11_down_9 rfl rfl ?_
  refine jw_callV (pc := 10) (m2 := mX5_hasCell) (As := [.int a1]) (st := []) dX11_down_10 sC_30 (by decide) rfl rfl gm_X5_hasCell ml_X11_197 rfl (Nat.le_of_ble_eq_true rfl) (JC.mono h ?_)
  clear h
  rintro M1 _ ⟨b1, rfl, h⟩
  refine jw_st (st' := [.int (jb b1)]) rfl ?_
  refine jw_if_ne (pc := 13) (tgt := 22) dX11_down_13 (by decide) (fun c => ?_) (fun c => ?_)
  · replace h := h.1 (jb_ne c)
    refine jw_aload_n (pc := 22) (j := 1) dX11_down_22 rfl rfl ?_
    refine jw_getR (pc := 23) (r := 29) dX11_down_23 sC_0 fl_X11_36 (by decide) rfl rfl ?_
    refine jw_getR (pc := 26) (r := 39) dX11_down_26 sC_29 fl_X11_230 (by decide) rfl rfl ?_
    refine jw_iconst (pc := 29) (v := 0) dX11_down_29 rfl ?_
    refine jw_aload_n (pc := 30) (j := 1) dX11_down_30 rfl rfl ?_
    refine jw_getR (pc := 31) (r := 73) dX11_down_31 sC_0 fl_X11_69 (by decide) rfl rfl ?_
    refine jw_iconst (pc := 34) (v := 0) dX11_down_34 rfl ?_
    refine jw_aload_n (pc := 35) (j := 0) dX11_down_35 rfl rfl ?_
    refine jw_getI (pc := 36) dX11_down_36 sC_30 fl_X11_160 (by decide) rfl ?_
    obtain ⟨c1, ec1, q1, q2, h⟩ := h
    refine jw_copyI (pc := 39) (a := 0) (b := 0) (k := c1) (st := []) dX11_down_39 ac_X11_124 ac_n ac_s ac_i sC_39 sC_73 rfl rfl ec1 q1 q2 (by decide) (by decide) (jcw (Nat.le_of_ble_eq_true rfl)) ?_
    replace h := h _ rfl
    generalize jrI M1 73 (va_cpy (M1.1 39) (M1.1 73) 0 0 c1) = M2 at h ⊢
    refine jw_aload_n (pc := 42) (j := 1) dX11_down_42 rfl rfl ?_
    refine jw_getR (pc := 43) (r := 73) dX11_down_43 sC_0 fl_X11_69 (by decide) rfl rfl ?_
    refine jw_iload_n (pc := 46) (j := 2) dX11_down_46 rfl rfl ?_
    refine jw_aload_n (pc := 47) (j := 1) dX11_down_47 rfl rfl ?_
    refine jw_getR (pc := 48) (r := 73) dX11_down_48 sC_0 fl_X11_69 (by decide) rfl rfl ?_
    refine jw_iload_n (pc := 51) (j := 2) dX11_down_51 rfl rfl ?_
    obtain ⟨j1, hj1, ej1, h⟩ := h
    refine jw_iald (pc := 52) (j := j1) dX11_down_52 sC_73 hj1 ej1 (by decide) ?_
    refine jw_aload_n (pc := 53) (j := 0) dX11_down_53 rfl rfl ?_
    refine jw_getR (pc := 54) (r := 32) dX11_down_54 sC_30 fl_X11_203 (by decide) rfl rfl ?_
    refine jw_iload_n (pc := 57) (j := 2) dX11_down_57 rfl rfl ?_
    refine jw_iald (pc := 58) (j := j1) dX11_down_58 sC_32 hj1 ej1 (by decide) ?_
    refine jw_callS (pc := 59) (m2 := mJ9_min_7cf53) (As := [.int (M2.1 73 j1), .int (M2.1 32 j1)]) (st := [.int a1, .ref (x.2.2.2 73)]) dX11_down_59 gm_J9_min_7cf53 ml_X11_304 rfl (Nat.le_of_ble_eq_true rfl) (JC.mono h ?_)
    clear h
    rintro M3 _ ⟨r1, rfl, h⟩
    refine jw_st (st' := [.int r1, .int a1, .ref (x.2.2.2 73)]) rfl ?_
    refine jw_iast (pc := 62) (j := j1) dX11_down_62 sC_73 hj1 ej1 (by decide) ?_
    replace h := h _ rfl
    generalize jrI M3 73 (upd (M3.1 73) j1 r1) = M4 at h ⊢
    refine jw_iconst (pc := 63) (v := 0) dX11_down_63 rfl ?_
    refine jw_istore_n (pc := 64) (ls' := [(3, .int (0 : Int32)), (2, .ref (x.2.2.2 30)), (0, .ref (x.2.2.2 0)), (1, .int a1)]) dX11_down_64 rfl (by decide) rfl ?_
    refine jw_iconst (pc := 65) (v := 0) dX11_down_65 rfl ?_
    refine jw_istore (pc := 66) (ls' := [(4, .int (0 : Int32)), (3, .int (0 : Int32)), (2, .ref (x.2.2.2 30)), (0, .ref (x.2.2.2 0)), (1, .int a1)]) dX11_down_66 (by decide) rfl ?_
    exact jw_sub [3, 4, 2, 1, 0] rfl h
  · replace h := h.2 ((jb_0 _).mp c)
    refine jw_aload_n (pc := 16) (j := 1) dX11_down_16 rfl rfl ?_
    refine jw_iconst (pc := 17) (v := 2) dX11_down_17 rfl ?_
    refine jw_callV (pc := 18) (m2 := mX11_refused) (As := [.int (2 : Int32)]) (st := []) dX11_down_18 sC_0 (by decide) rfl rfl gm_X11_refused ml_X11_106 rfl (Nat.le_of_ble_eq_true rfl) (JC.mono h ?_)
    clear h
    rintro M5 _ ⟨r2, rfl, h⟩
    refine jw_st (st' := [.int r2]) rfl ?_
    exact jw_iret (pc := 21) dX11_down_21 rfl ⟨_, rfl, h⟩
set_option maxRecDepth 20000 in
theorem b_X11_down_68 {x : jX} {d : Nat} {M : jM} {P : jM → Int32 → Prop} {l1 : Int32} {l3 : Int32} {l4 : Int32} 
    (h : ((M.1 30 3) ≤ l4 → JC x jtbC mX11_answered d [.ref (x.2.2.2 0), .int l3] M (jI fun M1 r1 => P M1 r1)) ∧ (¬ (M.1 30 3) ≤ l4 → ∃ j1, j1 < 6 ∧ l4 = nI j1 ∧ (JC x jtbC mX5_stripAt d [.ref (x.2.2.2 30), .int (M.1 35 j1), .int l1] M (jI fun M2 r2 => JC x jtbC mX5_sightOf d [.ref (x.2.2.2 30), .int l4, .int r2, .ref (x.2.2.2 73)] M2 (jI fun M3 r3 => JC x jtbC mX5_sightOf d [.ref (x.2.2.2 30), .int l4, .int r2, .ref (x.2.2.2 39)] M3 (jI fun M4 r4 => (r3 = r4 → JW x jtbC mX11_down (d + 1) (jI P) 68 [(0, .ref (x.2.2.2 0)), (1, .int l1), (2, .ref (x.2.2.2 30)), (3, .int l3), (4, .int (l4 + 1))] [] M4) ∧ (¬ r3 = r4 → JW x jtbC mX11_down (d + 1) (jI P) 68 [(0, .ref (x.2.2.2 0)), (1, .int l1), (2, .ref (x.2.2.2 30)), (3, .int (l3 + 1)), (4, .int (l4 + 1))] [] M4))))))) :
    JW x jtbC mX11_down (d + 1) (jI P) 68 [(0, .ref (x.2.2.2 0)), (1, .int l1), (2, .ref (x.2.2.2 30)), (3, .int l3), (4, .int l4)] [] M := by
  refine jw_iload (pc := 68) (j := 4) dX11_down_68 rfl ?_
  refine jw_aload_n (pc := 70) (j := 2) dX11_down_70 rfl rfl ?_
  refine jw_getI (pc := 71) dX11_down_71 sC_30 fl_X11_194 (by decide) rfl ?_
  refine jw_icmp_ge (pc := 74) (tgt := 130) dX11_down_74 (by decide) (fun c => ?_) (fun c => ?_)
  · replace h := h.1 c
    refine jw_aload_n (pc := 130) (j := 0) dX11_down_130 rfl rfl ?_
    refine jw_iload_n (pc := 131) (j := 3) dX11_down_131 rfl rfl ?_
    refine jw_callV (pc := 132) (m2 := mX11_answered) (As := [.int l3]) (st := []) dX11_down_132 sC_0 (by decide) rfl rfl gm_X11_answered ml_X11_165 rfl (Nat.le_of_ble_eq_true rfl) (JC.mono h ?_)
    clear h
    rintro M1 _ ⟨r1, rfl, h⟩
    refine jw_st (st' := [.int r1]) rfl ?_
    exact jw_iret (pc := 135) dX11_down_135 rfl ⟨_, rfl, h⟩
  · replace h := h.2 c
    refine jw_aload_n (pc := 77) (j := 2) dX11_down_77 rfl rfl ?_
    refine jw_aload_n (pc := 78) (j := 2) dX11_down_78 rfl rfl ?_
    refine jw_getR (pc := 79) (r := 35) dX11_down_79 sC_30 fl_X11_212 (by decide) rfl rfl ?_
    refine jw_iload (pc := 82) (j := 4) dX11_down_82 rfl ?_
    obtain ⟨j1, hj1, ej1, h⟩ := h
    refine jw_iald (pc := 84) (j := j1) dX11_down_84 sC_35 hj1 ej1 (by decide) ?_
    refine jw_iload_n (pc := 85) (j := 1) dX11_down_85 rfl rfl ?_
    refine jw_callV (pc := 86) (m2 := mX5_stripAt) (As := [.int (M.1 35 j1), .int l1]) (st := []) dX11_down_86 sC_30 (by decide) rfl rfl gm_X5_stripAt ml_X11_227 rfl (Nat.le_of_ble_eq_true rfl) (JC.mono h ?_)
    clear h
    rintro M2 _ ⟨r2, rfl, h⟩
    refine jw_st (st' := [.int r2]) rfl ?_
    refine jw_istore (pc := 89) (ls' := [(5, .int r2), (0, .ref (x.2.2.2 0)), (1, .int l1), (2, .ref (x.2.2.2 30)), (3, .int l3), (4, .int l4)]) dX11_down_89 (by decide) rfl ?_
    refine jw_aload_n (pc := 91) (j := 3) dX11_down_91 rfl rfl ?_
    refine jw_iload (pc := 92) (j := 5) dX11_down_92 rfl ?_
    refine jw_iload (pc := 94) (j := 0) dX11_down_94 rfl ?_
    refine jw_aload_n (pc := 96) (j := 1) dX11_down_96 rfl rfl ?_
    refine jw_getR (pc := 97) (r := 73) dX11_down_97 sC_0 fl_X11_69 (by decide) rfl rfl ?_
    refine jw_callV (pc := 100) (m2 := mX5_sightOf) (As := [.int l4, .int r2, .ref (x.2.2.2 73)]) (st := []) dX11_down_100 sC_30 (by decide) rfl rfl gm_X5_sightOf ml_X11_244 rfl (Nat.le_of_ble_eq_true rfl) (JC.mono h ?_)
    clear h
    rintro M3 _ ⟨r3, rfl, h⟩
    refine jw_st (st' := [.int r3]) rfl ?_
    refine jw_aload_n (pc := 103) (j := 3) dX11_down_103 rfl rfl ?_
    refine jw_iload (pc := 104) (j := 5) dX11_down_104 rfl ?_
    refine jw_iload (pc := 106) (j := 0) dX11_down_106 rfl ?_
    refine jw_aload_n (pc := 108) (j := 1) dX11_down_108 rfl rfl ?_
    refine jw_getR (pc := 109) (r := 29) dX11_down_109 sC_0 fl_X11_36 (by decide) rfl rfl ?_
    refine jw_getR (pc := 112) (r := 39) dX11_down_112 sC_29 fl_X11_230 (by decide) rfl rfl ?_
    refine jw_callV (pc := 115) (m2 := mX5_sightOf) (As := [.int l4, .int r2, .ref (x.2.2.2 39)]) (st := [.int r3]) dX11_down_115 sC_30 (by decide) rfl rfl gm_X5_sightOf ml_X11_244 rfl (Nat.le_of_ble_eq_true rfl) (JC.mono h ?_)
    clear h
    rintro M4 _ ⟨r4, rfl, h⟩
    refine jw_st (st' := [.int r4, .int r3]) rfl ?_
    refine jw_icmp_eq (pc := 118) (tgt := 124) dX11_down_118 (by decide) (fun c => ?_) (fun c => ?_)
    · replace h := h.1 c
      refine jw_iinc (pc := 124) (j := 5) (u := l4 + 1) (ls' := [(4, .int (l4 + 1)), (5, .int r2), (0, .ref (x.2.2.2 0)), (1, .int l1), (2, .ref (x.2.2.2 30)), (3, .int l3)]) dX11_down_124 rfl rfl (by decide) rfl ?_
      refine jw_goto (pc := 127) (tgt := 68) dX11_down_127 (by decide) ?_
      exact jw_sub [2, 3, 4, 5, 0] rfl h
    · replace h := h.2 c
      refine jw_iinc (pc := 121) (j := 4) (u := l3 + 1) (ls' := [(3, .int (l3 + 1)), (5, .int r2), (0, .ref (x.2.2.2 0)), (1, .int l1), (2, .ref (x.2.2.2 30)), (4, .int l4)]) dX11_down_121 rfl rfl (by decide) rfl ?_
      refine jw_iinc (pc := 124) (j := 5) (u := l4 + 1) (ls' := [(4, .int (l4 + 1)), (3, .int (l3 + 1)), (5, .int r2), (0, .ref (x.2.2.2 0)), (1, .int l1), (2, .ref (x.2.2.2 30))]) dX11_down_124 rfl rfl (by decide) rfl ?_
      refine jw_goto (pc := 127) (tgt := 68) dX11_down_127 (by decide) ?_
      exact jw_sub [3, 4, 5, 1, 0] rfl h
set_option maxRecDepth 20000 in
theorem b_X11_instead {x : jX} {d : Nat} {M : jM} {P : jM → Int32 → Prop} {a1 : Int32} 
    (h : JC x jtbC mX5_hasCell d [.ref (x.2.2.2 30), .int a1] M (jZ fun M1 b1 => (b1 = true → JC x jtbC mX8_wantViews d [.ref (x.2.2.2 49), .ref (x.2.2.2 30), .ref (x.2.2.2 39)] M1 (jV fun M2 => JC x jtbC mX8_keepLow d [.ref (x.2.2.2 49), .ref (x.2.2.2 30), .int a1] M2 (jV fun M3 => JC x jtbC mX8_canBeKept d [.ref (x.2.2.2 49), .ref (x.2.2.2 30)] M3 (jZ fun M4 b2 => (b2 = true → JC x jtbC mX8_cheapestTown d [.ref (x.2.2.2 49), .ref (x.2.2.2 30), .ref (x.2.2.2 73)] M4 (jV fun M5 => JC x jtbC mX5_stoneOf d [.ref (x.2.2.2 30), .ref (x.2.2.2 73)] M5 (jI fun M6 r1 => JC x jtbC mX11_answered d [.ref (x.2.2.2 0), .int r1] M6 (jI fun M7 r2 => P M7 r2)))) ∧ (b2 = false → JC x jtbC mX11_refused d [.ref (x.2.2.2 0), .int (9 : Int32)] M4 (jI fun M8 r3 => P M8 r3)))))) ∧ (b1 = false → JC x jtbC mX11_refused d [.ref (x.2.2.2 0), .int (2 : Int32)] M1 (jI fun M9 r4 => P M9 r4)))) :
    JC x jtbC mX11_instead (d + 1) [.ref (x.2.2.2 0), .int a1] M (jI P) := by
  refine JC.of rfl (Nat.le_of_ble_eq_true rfl) ?_
  refine jw_ls (ls' := [(0, .ref (x.2.2.2 0)), (1, .int a1)]) rfl ?_
  refine jw_aload_n (pc := 0) (j := 0) dX11_instead_0 rfl rfl ?_
  refine jw_getR (pc := 1) (r := 29) dX11_instead_1 sC_0 fl_X11_36 (by decide) rfl rfl ?_
  refine jw_getR (pc := 4) (r := 30) dX11_instead_4 sC_29 fl_X11_157 (by decide) rfl rfl ?_
  refine jw_astore_n (pc := 7) (ls' := [(2, .ref (x.2.2.2 30)), (0, .ref (x.2.2.2 0)), (1, .int a1)]) dX11_instead_7 rfl (by decide) rfl ?_
  refine jw_aload_n (pc := 8) (j := 0) dX11_instead_8 rfl rfl ?_
  refine jw_iload_n (pc := 9) (j := 2) dX11_instead_9 rfl rfl ?_
  refine jw_callV (pc := 10) (m2 := mX5_hasCell) (As := [.int a1]) (st := []) dX11_instead_10 sC_30 (by decide) rfl rfl gm_X5_hasCell ml_X11_197 rfl (Nat.le_of_ble_eq_true rfl) (JC.mono h ?_)
  clear h
  rintro M1 _ ⟨b1, rfl, h⟩
  refine jw_st (st' := [.int (jb b1)]) rfl ?_
  refine jw_if_ne (pc := 13) (tgt := 22) dX11_instead_13 (by decide) (fun c => ?_) (fun c => ?_)
  · replace h := h.1 (jb_ne c)
    refine jw_aload_n (pc := 22) (j := 1) dX11_instead_22 rfl rfl ?_
    refine jw_getR (pc := 23) (r := 49) dX11_instead_23 sC_0 fl_X11_47 (by decide) rfl rfl ?_
    refine jw_aload_n (pc := 26) (j := 0) dX11_instead_26 rfl rfl ?_
    refine jw_aload_n (pc := 27) (j := 1) dX11_instead_27 rfl rfl ?_
    refine jw_getR (pc := 28) (r := 29) dX11_instead_28 sC_0 fl_X11_36 (by decide) rfl rfl ?_
    refine jw_getR (pc := 31) (r := 39) dX11_instead_31 sC_29 fl_X11_230 (by decide) rfl rfl ?_
    refine jw_callV (pc := 34) (m2 := mX8_wantViews) (As := [.ref (x.2.2.2 30), .ref (x.2.2.2 39)]) (st := []) dX11_instead_34 sC_49 (by decide) rfl rfl gm_X8_wantViews ml_X11_309 rfl (Nat.le_of_ble_eq_true rfl) (JC.mono h ?_)
    clear h
    rintro M2 _ ⟨rfl, h⟩
    refine jw_st (st' := []) rfl ?_
    refine jw_aload_n (pc := 37) (j := 1) dX11_instead_37 rfl rfl ?_
    refine jw_getR (pc := 38) (r := 49) dX11_instead_38 sC_0 fl_X11_47 (by decide) rfl rfl ?_
    refine jw_aload_n (pc := 41) (j := 0) dX11_instead_41 rfl rfl ?_
    refine jw_iload_n (pc := 42) (j := 2) dX11_instead_42 rfl rfl ?_
    refine jw_callV (pc := 43) (m2 := mX8_keepLow) (As := [.ref (x.2.2.2 30), .int a1]) (st := []) dX11_instead_43 sC_49 (by decide) rfl rfl gm_X8_keepLow ml_X11_312 rfl (Nat.le_of_ble_eq_true rfl) (JC.mono h ?_)
    clear h
    rintro M3 _ ⟨rfl, h⟩
    refine jw_st (st' := []) rfl ?_
    refine jw_aload_n (pc := 46) (j := 1) dX11_instead_46 rfl rfl ?_
    refine jw_getR (pc := 47) (r := 49) dX11_instead_47 sC_0 fl_X11_47 (by decide) rfl rfl ?_
    refine jw_aload_n (pc := 50) (j := 0) dX11_instead_50 rfl rfl ?_
    refine jw_callV (pc := 51) (m2 := mX8_canBeKept) (As := [.ref (x.2.2.2 30)]) (st := []) dX11_instead_51 sC_49 (by decide) rfl rfl gm_X8_canBeKept ml_X11_315 rfl (Nat.le_of_ble_eq_true rfl) (JC.mono h ?_)
    clear h
    rintro M4 _ ⟨b2, rfl, h⟩
    refine jw_st (st' := [.int (jb b2)]) rfl ?_
    refine jw_if_ne (pc := 54) (tgt := 64) dX11_instead_54 (by decide) (fun c => ?_) (fun c => ?_)
    · replace h := h.1 (jb_ne c)
      refine jw_aload_n (pc := 64) (j := 1) dX11_instead_64 rfl rfl ?_
      refine jw_getR (pc := 65) (r := 49) dX11_instead_65 sC_0 fl_X11_47 (by decide) rfl rfl ?_
      refine jw_aload_n (pc := 68) (j := 0) dX11_instead_68 rfl rfl ?_
      refine jw_aload_n (pc := 69) (j := 1) dX11_instead_69 rfl rfl ?_
      refine jw_getR (pc := 70) (r := 73) dX11_instead_70 sC_0 fl_X11_69 (by decide) rfl rfl ?_
      refine jw_callV (pc := 73) (m2 := mX8_cheapestTown) (As := [.ref (x.2.2.2 30), .ref (x.2.2.2 73)]) (st := []) dX11_instead_73 sC_49 (by decide) rfl rfl gm_X8_cheapestTown ml_X11_278 rfl (Nat.le_of_ble_eq_true rfl) (JC.mono h ?_)
      clear h
      rintro M5 _ ⟨rfl, h⟩
      refine jw_st (st' := []) rfl ?_
      refine jw_aload_n (pc := 76) (j := 1) dX11_instead_76 rfl rfl ?_
      refine jw_aload_n (pc := 77) (j := 0) dX11_instead_77 rfl rfl ?_
      refine jw_aload_n (pc := 78) (j := 1) dX11_instead_78 rfl rfl ?_
      refine jw_getR (pc := 79) (r := 73) dX11_instead_79 sC_0 fl_X11_69 (by decide) rfl rfl ?_
      refine jw_callV (pc := 82) (m2 := mX5_stoneOf) (As := [.ref (x.2.2.2 73)]) (st := [.ref (x.2.2.2 0)]) dX11_instead_82 sC_30 (by decide) rfl rfl gm_X5_stoneOf ml_X11_256 rfl (Nat.le_of_ble_eq_true rfl) (JC.mono h ?_)
      clear h
      rintro M6 _ ⟨r1, rfl, h⟩
      refine jw_st (st' := [.int r1, .ref (x.2.2.2 0)]) rfl ?_
      refine jw_callV (pc := 85) (m2 := mX11_answered) (As := [.int r1]) (st := []) dX11_instead_85 sC_0 (by decide) rfl rfl gm_X11_answered ml_X11_165 rfl (Nat.le_of_ble_eq_true rfl) (JC.mono h ?_)
      clear h
      rintro M7 _ ⟨r2, rfl, h⟩
      refine jw_st (st' := [.int r2]) rfl ?_
      exact jw_iret (pc := 88) dX11_instead_88 rfl ⟨_, rfl, h⟩
    · replace h := h.2 ((jb_0 _).mp c)
      refine jw_aload_n (pc := 57) (j := 1) dX11_instead_57 rfl rfl ?_
      refine jw_bipush (pc := 58) (v := 9) dX11_instead_58 rfl ?_
      refine jw_callV (pc := 60) (m2 := mX11_refused) (As := [.int (9 : Int32)]) (st := []) dX11_instead_60 sC_0 (by decide) rfl rfl gm_X11_refused ml_X11_106 rfl (Nat.le_of_ble_eq_true rfl) (JC.mono h ?_)
      clear h
      rintro M8 _ ⟨r3, rfl, h⟩
      refine jw_st (st' := [.int r3]) rfl ?_
      exact jw_iret (pc := 63) dX11_instead_63 rfl ⟨_, rfl, h⟩
  · replace h := h.2 ((jb_0 _).mp c)
    refine jw_aload_n (pc := 16) (j := 1) dX11_instead_16 rfl rfl ?_
    refine jw_iconst (pc := 17) (v := 2) dX11_instead_17 rfl ?_
    refine jw_callV (pc := 18) (m2 := mX11_refused) (As := [.int (2 : Int32)]) (st := []) dX11_instead_18 sC_0 (by decide) rfl rfl gm_X11_refused ml_X11_106 rfl (Nat.le_of_ble_eq_true rfl) (JC.mono h ?_)
    clear h
    rintro M9 _ ⟨r4, rfl, h⟩
    refine jw_st (st' := [.int r4]) rfl ?_
    exact jw_iret (pc := 21) dX11_instead_21 rfl ⟨_, rfl, h⟩
set_option maxRecDepth 20000 in
theorem b_X11_apart {x : jX} {d : Nat} {M : jM} {P : jM → Int32 → Prop} {a1 : Int32} {a2 : Int32} {a3 : Int32} 
    (h : JC x jtbC mX11_isTray d [.int a1] M (jZ fun M1 b1 => (b1 = false → JC x jtbC mX11_refused d [.ref (x.2.2.2 0), .int (1 : Int32)] M1 (jI fun M2 r1 => P M2 r1)) ∧ (b1 = true → JC x jtbC mX11_isTray d [.int a2] M1 (jZ fun M3 b2 => (b2 = true → JC x jtbC mX5_hasVillage d [.ref (x.2.2.2 30), .int a3] M3 (jZ fun M4 b3 => (b3 = true → ∃ j1, j1 < 4 ∧ a1 = nI j1 ∧ (∃ j2, j2 < 4 ∧ a2 = nI j2 ∧ (JC x jtbC mX11_coupleStatus d [.ref (x.2.2.2 (77 + 2 * j1)), .ref (x.2.2.2 (77 + 2 * j2)), .int (M4.1 30 2)] M4 (jI fun M5 r2 => (r2 = 0 → JC x jtbC mX9_copyHeights d [.ref (x.2.2.2 (77 + 2 * j1)), .int (0 : Int32), .int (M5.1 30 2), .ref (x.2.2.2 63), .int (0 : Int32)] M5 (jV fun M6 => JC x jtbC mX9_copyHeights d [.ref (x.2.2.2 (77 + 2 * j2)), .int (0 : Int32), .int (M6.1 30 2), .ref (x.2.2.2 64), .int (0 : Int32)] M6 (jV fun M7 => JC x jtbC mX0_firstStripApart d [.ref (x.2.2.2 62), .ref (x.2.2.2 30), .int a3] M7 (jI fun M8 r3 => (¬ r3 = (-1 : Int32) → JC x jtbC mX11_answered d [.ref (x.2.2.2 0), .int r3] M8 (jI fun M9 r4 => P M9 r4)) ∧ (r3 = (-1 : Int32) → JC x jtbC mX11_refused d [.ref (x.2.2.2 0), .int (8 : Int32)] M8 (jI fun M10 r5 => P M10 r5)))))) ∧ (¬ r2 = 0 → JC x jtbC mX11_refused d [.ref (x.2.2.2 0), .int r2] M5 (jI fun M11 r6 => P M11 r6)))))) ∧ (b3 = false → JC x jtbC mX11_refused d [.ref (x.2.2.2 0), .int (2 : Int32)] M4 (jI fun M12 r7 => P M12 r7)))) ∧ (b2 = false → JC x jtbC mX11_refused d [.ref (x.2.2.2 0), .int (1 : Int32)] M3 (jI fun M13 r8 => P M13 r8)))))) :
    JC x jtbC mX11_apart (d + 1) [.ref (x.2.2.2 0), .int a1, .int a2, .int a3] M (jI P) := by
  refine JC.of rfl (Nat.le_of_ble_eq_true rfl) ?_
  refine jw_ls (ls' := [(0, .ref (x.2.2.2 0)), (1, .int a1), (2, .int a2), (3, .int a3)]) rfl ?_
  refine jw_iload_n (pc := 0) (j := 1) dX11_apart_0 rfl rfl ?_
  refine jw_callS (pc := 1) (m2 := mX11_isTray) (As := [.int a1]) (st := []) dX11_apart_1 gm_X11_isTray ml_X11_87 rfl (Nat.le_of_ble_eq_true rfl) (JC.mono h ?_)
  clear h
  rintro M1 _ ⟨b1, rfl, h⟩
  refine jw_st (st' := [.int (jb b1)]) rfl ?_
  refine jw_if_eq (pc := 4) (tgt := 14) dX11_apart_4 (by decide) (fun c => ?_) (fun c => ?_)
  · replace h := h.1 ((jb_0 _).mp c)
    refine jw_aload_n (pc := 14) (j := 0) dX11_apart_14 rfl rfl ?_
    refine jw_iconst (pc := 15) (v := 1) dX11_apart_15 rfl ?_
    refine jw_callV (pc := 16) (m2 := mX11_refused) (As := [.int (1 : Int32)]) (st := []) dX11_apart_16 sC_0 (by decide) rfl rfl gm_X11_refused ml_X11_106 rfl (Nat.le_of_ble_eq_true rfl) (JC.mono h ?_)
    clear h
    rintro M2 _ ⟨r1, rfl, h⟩
    refine jw_st (st' := [.int r1]) rfl ?_
    exact jw_iret (pc := 19) dX11_apart_19 rfl ⟨_, rfl, h⟩
  · replace h := h.2 (jb_ne c)
    refine jw_iload_n (pc := 7) (j := 2) dX11_apart_7 rfl rfl ?_
    refine jw_callS (pc := 8) (m2 := mX11_isTray) (As := [.int a2]) (st := []) dX11_apart_8 gm_X11_isTray ml_X11_87 rfl (Nat.le_of_ble_eq_true rfl) (JC.mono h ?_)
    clear h
    rintro M3 _ ⟨b2, rfl, h⟩
    refine jw_st (st' := [.int (jb b2)]) rfl ?_
    refine jw_if_ne (pc := 11) (tgt := 20) dX11_apart_11 (by decide) (fun c => ?_) (fun c => ?_)
    · replace h := h.1 (jb_ne c)
      refine jw_aload_n (pc := 20) (j := 0) dX11_apart_20 rfl rfl ?_
      refine jw_getR (pc := 21) (r := 29) dX11_apart_21 sC_0 fl_X11_36 (by decide) rfl rfl ?_
      refine jw_getR (pc := 24) (r := 30) dX11_apart_24 sC_29 fl_X11_157 (by decide) rfl rfl ?_
      refine jw_astore (pc := 27) (ls' := [(4, .ref (x.2.2.2 30)), (0, .ref (x.2.2.2 0)), (1, .int a1), (2, .int a2), (3, .int a3)]) dX11_apart_27 (by decide) rfl ?_
      refine jw_aload (pc := 29) (j := 0) dX11_apart_29 rfl ?_
      refine jw_iload_n (pc := 31) (j := 4) dX11_apart_31 rfl rfl ?_
      refine jw_callV (pc := 32) (m2 := mX5_hasVillage) (As := [.int a3]) (st := []) dX11_apart_32 sC_30 (by decide) rfl rfl gm_X5_hasVillage ml_X11_209 rfl (Nat.le_of_ble_eq_true rfl) (JC.mono h ?_)
      clear h
      rintro M4 _ ⟨b3, rfl, h⟩
      refine jw_st (st' := [.int (jb b3)]) rfl ?_
      refine jw_if_ne (pc := 35) (tgt := 44) dX11_apart_35 (by decide) (fun c => ?_) (fun c => ?_)
      · replace h := h.1 (jb_ne c)
        refine jw_aload_n (pc := 44) (j := 1) dX11_apart_44 rfl rfl ?_
        refine jw_getR (pc := 45) (r := 1) dX11_apart_45 sC_0 fl_X11_11 (by decide) rfl rfl ?_
        refine jw_iload_n (pc := 48) (j := 2) dX11_apart_48 rfl rfl ?_
        obtain ⟨j1, hj1, ej1, h⟩ := h
        refine jw_aald24 (pc := 49) (j := j1) (r := 77 + 2 * j1) dX11_apart_49 sC_1 hj1 ej1 (by decide) (by simp [jel]) ?_
        refine jw_aload_n (pc := 50) (j := 1) dX11_apart_50 rfl rfl ?_
        refine jw_getR (pc := 51) (r := 1) dX11_apart_51 sC_0 fl_X11_11 (by decide) rfl rfl ?_
        refine jw_iload_n (pc := 54) (j := 3) dX11_apart_54 rfl rfl ?_
        obtain ⟨j2, hj2, ej2, h⟩ := h
        refine jw_aald24 (pc := 55) (j := j2) (r := 77 + 2 * j2) dX11_apart_55 sC_1 hj2 ej2 (by decide) (by simp [jel]) ?_
        refine jw_aload (pc := 56) (j := 0) dX11_apart_56 rfl ?_
        refine jw_getI (pc := 58) dX11_apart_58 sC_30 fl_X11_160 (by decide) rfl ?_
        refine jw_callS (pc := 61) (m2 := mX11_coupleStatus) (As := [.ref (x.2.2.2 (77 + 2 * j1)), .ref (x.2.2.2 (77 + 2 * j2)), .int (M4.1 30 2)]) (st := []) dX11_apart_61 gm_X11_coupleStatus ml_X11_319 rfl (Nat.le_of_ble_eq_true rfl) (JC.mono h ?_)
        clear h
        rintro M5 _ ⟨r2, rfl, h⟩
        refine jw_st (st' := [.int r2]) rfl ?_
        refine jw_istore (pc := 64) (ls' := [(5, .int r2), (4, .ref (x.2.2.2 30)), (0, .ref (x.2.2.2 0)), (1, .int a1), (2, .int a2), (3, .int a3)]) dX11_apart_64 (by decide) rfl ?_
        refine jw_iload (pc := 66) (j := 0) dX11_apart_66 rfl ?_
        refine jw_if_eq (pc := 68) (tgt := 78) dX11_apart_68 (by decide) (fun c => ?_) (fun c => ?_)
        · replace h := h.1 c
          refine jw_aload_n (pc := 78) (j := 2) dX11_apart_78 rfl rfl ?_
          refine jw_getR (pc := 79) (r := 1) dX11_apart_79 sC_0 fl_X11_11 (by decide) rfl rfl ?_
          refine jw_iload_n (pc := 82) (j := 3) dX11_apart_82 rfl rfl ?_
          refine jw_aald24 (pc := 83) (j := j1) (r := 77 + 2 * j1) dX11_apart_83 sC_1 hj1 ej1 (by decide) (by simp [jel]) ?_
          refine jw_iconst (pc := 84) (v := 0) dX11_apart_84 rfl ?_
          refine jw_aload (pc := 85) (j := 1) dX11_apart_85 rfl ?_
          refine jw_getI (pc := 87) dX11_apart_87 sC_30 fl_X11_160 (by decide) rfl ?_
          refine jw_aload_n (pc := 90) (j := 2) dX11_apart_90 rfl rfl ?_
          refine jw_getR (pc := 91) (r := 62) dX11_apart_91 sC_0 fl_X11_54 (by decide) rfl rfl ?_
          refine jw_getR (pc := 94) (r := 63) dX11_apart_94 sC_62 fl_X11_323 (by decide) rfl rfl ?_
          refine jw_iconst (pc := 97) (v := 0) dX11_apart_97 rfl ?_
          refine jw_callV (pc := 98) (m2 := mX9_copyHeights) (As := [.int (0 : Int32), .int (M5.1 30 2), .ref (x.2.2.2 63), .int (0 : Int32)]) (st := []) dX11_apart_98 (at9 hj1).1 (by decide) rfl rfl gm_X9_copyHeights ml_X11_240 rfl (Nat.le_of_ble_eq_true rfl) (JC.mono h ?_)
          clear h
          rintro M6 _ ⟨rfl, h⟩
          refine jw_st (st' := []) rfl ?_
          refine jw_aload_n (pc := 101) (j := 2) dX11_apart_101 rfl rfl ?_
          refine jw_getR (pc := 102) (r := 1) dX11_apart_102 sC_0 fl_X11_11 (by decide) rfl rfl ?_
          refine jw_iload_n (pc := 105) (j := 4) dX11_apart_105 rfl rfl ?_
          refine jw_aald24 (pc := 106) (j := j2) (r := 77 + 2 * j2) dX11_apart_106 sC_1 hj2 ej2 (by decide) (by simp [jel]) ?_
          refine jw_iconst (pc := 107) (v := 0) dX11_apart_107 rfl ?_
          refine jw_aload (pc := 108) (j := 1) dX11_apart_108 rfl ?_
          refine jw_getI (pc := 110) dX11_apart_110 sC_30 fl_X11_160 (by decide) rfl ?_
          refine jw_aload_n (pc := 113) (j := 2) dX11_apart_113 rfl rfl ?_
          refine jw_getR (pc := 114) (r := 62) dX11_apart_114 sC_0 fl_X11_54 (by decide) rfl rfl ?_
          refine jw_getR (pc := 117) (r := 64) dX11_apart_117 sC_62 fl_X11_326 (by decide) rfl rfl ?_
          refine jw_iconst (pc := 120) (v := 0) dX11_apart_120 rfl ?_
          refine jw_callV (pc := 121) (m2 := mX9_copyHeights) (As := [.int (0 : Int32), .int (M6.1 30 2), .ref (x.2.2.2 64), .int (0 : Int32)]) (st := []) dX11_apart_121 (at9 hj2).1 (by decide) rfl rfl gm_X9_copyHeights ml_X11_240 rfl (Nat.le_of_ble_eq_true rfl) (JC.mono h ?_)
          clear h
          rintro M7 _ ⟨rfl, h⟩
          refine jw_st (st' := []) rfl ?_
          refine jw_aload_n (pc := 124) (j := 2) dX11_apart_124 rfl rfl ?_
          refine jw_getR (pc := 125) (r := 62) dX11_apart_125 sC_0 fl_X11_54 (by decide) rfl rfl ?_
          refine jw_aload (pc := 128) (j := 1) dX11_apart_128 rfl ?_
          refine jw_iload_n (pc := 130) (j := 5) dX11_apart_130 rfl rfl ?_
          refine jw_callV (pc := 131) (m2 := mX0_firstStripApart) (As := [.ref (x.2.2.2 30), .int a3]) (st := []) dX11_apart_131 sC_62 (by decide) rfl rfl gm_X0_firstStripApart ml_X11_329 rfl (Nat.le_of_ble_eq_true rfl) (JC.mono h ?_)
          clear h
          rintro M8 _ ⟨r3, rfl, h⟩
          refine jw_st (st' := [.int r3]) rfl ?_
          refine jw_istore (pc := 134) (ls' := [(6, .int r3), (5, .int r2), (4, .ref (x.2.2.2 30)), (0, .ref (x.2.2.2 0)), (1, .int a1), (2, .int a2), (3, .int a3)]) dX11_apart_134 (by decide) rfl ?_
          refine jw_iload (pc := 136) (j := 0) dX11_apart_136 rfl ?_
          refine jw_iconst (pc := 138) (v := (-1)) dX11_apart_138 rfl ?_
          refine jw_icmp_ne (pc := 139) (tgt := 151) dX11_apart_139 (by decide) (fun c => ?_) (fun c => ?_)
          · replace h := h.1 c
            refine jw_aload_n (pc := 151) (j := 3) dX11_apart_151 rfl rfl ?_
            refine jw_iload (pc := 152) (j := 0) dX11_apart_152 rfl ?_
            refine jw_callV (pc := 154) (m2 := mX11_answered) (As := [.int r3]) (st := []) dX11_apart_154 sC_0 (by decide) rfl rfl gm_X11_answered ml_X11_165 rfl (Nat.le_of_ble_eq_true rfl) (JC.mono h ?_)
            clear h
            rintro M9 _ ⟨r4, rfl, h⟩
            refine jw_st (st' := [.int r4]) rfl ?_
            exact jw_iret (pc := 157) dX11_apart_157 rfl ⟨_, rfl, h⟩
          · replace h := h.2 c
            refine jw_aload_n (pc := 142) (j := 3) dX11_apart_142 rfl rfl ?_
            refine jw_bipush (pc := 143) (v := 8) dX11_apart_143 rfl ?_
            refine jw_callV (pc := 145) (m2 := mX11_refused) (As := [.int (8 : Int32)]) (st := []) dX11_apart_145 sC_0 (by decide) rfl rfl gm_X11_refused ml_X11_106 rfl (Nat.le_of_ble_eq_true rfl) (JC.mono h ?_)
            clear h
            rintro M10 _ ⟨r5, rfl, h⟩
            refine jw_st (st' := [.int r5]) rfl ?_
            refine jw_goto (pc := 148) (tgt := 157) dX11_apart_148 (by decide) ?_
            exact jw_iret (pc := 157) dX11_apart_157 rfl ⟨_, rfl, h⟩
        · replace h := h.2 c
          refine jw_aload_n (pc := 71) (j := 2) dX11_apart_71 rfl rfl ?_
          refine jw_iload (pc := 72) (j := 0) dX11_apart_72 rfl ?_
          refine jw_callV (pc := 74) (m2 := mX11_refused) (As := [.int r2]) (st := []) dX11_apart_74 sC_0 (by decide) rfl rfl gm_X11_refused ml_X11_106 rfl (Nat.le_of_ble_eq_true rfl) (JC.mono h ?_)
          clear h
          rintro M11 _ ⟨r6, rfl, h⟩
          refine jw_st (st' := [.int r6]) rfl ?_
          exact jw_iret (pc := 77) dX11_apart_77 rfl ⟨_, rfl, h⟩
      · replace h := h.2 ((jb_0 _).mp c)
        refine jw_aload_n (pc := 38) (j := 1) dX11_apart_38 rfl rfl ?_
        refine jw_iconst (pc := 39) (v := 2) dX11_apart_39 rfl ?_
        refine jw_callV (pc := 40) (m2 := mX11_refused) (As := [.int (2 : Int32)]) (st := []) dX11_apart_40 sC_0 (by decide) rfl rfl gm_X11_refused ml_X11_106 rfl (Nat.le_of_ble_eq_true rfl) (JC.mono h ?_)
        clear h
        rintro M12 _ ⟨r7, rfl, h⟩
        refine jw_st (st' := [.int r7]) rfl ?_
        exact jw_iret (pc := 43) dX11_apart_43 rfl ⟨_, rfl, h⟩
    · replace h := h.2 ((jb_0 _).mp c)
      refine jw_aload_n (pc := 14) (j := 0) dX11_apart_14 rfl rfl ?_
      refine jw_iconst (pc := 15) (v := 1) dX11_apart_15 rfl ?_
      refine jw_callV (pc := 16) (m2 := mX11_refused) (As := [.int (1 : Int32)]) (st := []) dX11_apart_16 sC_0 (by decide) rfl rfl gm_X11_refused ml_X11_106 rfl (Nat.le_of_ble_eq_true rfl) (JC.mono h ?_)
      clear h
      rintro M13 _ ⟨r8, rfl, h⟩
      refine jw_st (st' := [.int r8]) rfl ?_
      exact jw_iret (pc := 19) dX11_apart_19 rfl ⟨_, rfl, h⟩
set_option maxRecDepth 20000 in
theorem b_X11_watchers {x : jX} {d : Nat} {M : jM} {P : jM → Int32 → Prop} {a1 : Int32} {a2 : Int32} 
    (h : JC x jtbC mX11_toldStatus d [.ref (x.2.2.2 0), .int a1, .int a2, .int (2 : Int32), .int (4 : Int32), .int (M.1 30 2)] M (jI fun M1 r1 => (r1 = 0 → ∃ j1, j1 < 4 ∧ a1 = nI j1 ∧ (JC x jtbC mX0_fewestWatchers d [.ref (x.2.2.2 62), .ref (x.2.2.2 30), .ref (x.2.2.2 (77 + 2 * j1)), .int a2] M1 (jI fun M2 r2 => (¬ r2 = (-1 : Int32) → JC x jtbC mX11_answered d [.ref (x.2.2.2 0), .int r2] M2 (jI fun M3 r3 => P M3 r3)) ∧ (r2 = (-1 : Int32) → JC x jtbC mX11_refused d [.ref (x.2.2.2 0), .int (9 : Int32)] M2 (jI fun M4 r4 => P M4 r4))))) ∧ (¬ r1 = 0 → JC x jtbC mX11_refused d [.ref (x.2.2.2 0), .int r1] M1 (jI fun M5 r5 => P M5 r5)))) :
    JC x jtbC mX11_watchers (d + 1) [.ref (x.2.2.2 0), .int a1, .int a2] M (jI P) := by
  refine JC.of rfl (Nat.le_of_ble_eq_true rfl) ?_
  refine jw_ls (ls' := [(0, .ref (x.2.2.2 0)), (1, .int a1), (2, .int a2)]) rfl ?_
  refine jw_aload_n (pc := 0) (j := 0) dX11_watchers_0 rfl rfl ?_
  refine jw_iload_n (pc := 1) (j := 1) dX11_watchers_1 rfl rfl ?_
  refine jw_iload_n (pc := 2) (j := 2) dX11_watchers_2 rfl rfl ?_
  refine jw_iconst (pc := 3) (v := 2) dX11_watchers_3 rfl ?_
  refine jw_iconst (pc := 4) (v := 4) dX11_watchers_4 rfl ?_
  refine jw_aload_n (pc := 5) (j := 0) dX11_watchers_5 rfl rfl ?_
  refine jw_getR (pc := 6) (r := 29) dX11_watchers_6 sC_0 fl_X11_36 (by decide) rfl rfl ?_
  refine jw_getR (pc := 9) (r := 30) dX11_watchers_9 sC_29 fl_X11_157 (by decide) rfl rfl ?_
  refine jw_getI (pc := 12) dX11_watchers_12 sC_30 fl_X11_160 (by decide) rfl ?_
  refine jw_callV (pc := 15) (m2 := mX11_toldStatus) (As := [.int a1, .int a2, .int (2 : Int32), .int (4 : Int32), .int (M.1 30 2)]) (st := []) dX11_watchers_15 sC_0 (by decide) rfl rfl gm_X11_toldStatus ml_X11_333 rfl (Nat.le_of_ble_eq_true rfl) (JC.mono h ?_)
  clear h
  rintro M1 _ ⟨r1, rfl, h⟩
  refine jw_st (st' := [.int r1]) rfl ?_
  refine jw_istore_n (pc := 18) (ls' := [(3, .int r1), (0, .ref (x.2.2.2 0)), (1, .int a1), (2, .int a2)]) dX11_watchers_18 rfl (by decide) rfl ?_
  refine jw_iload_n (pc := 19) (j := 0) dX11_watchers_19 rfl rfl ?_
  refine jw_if_eq (pc := 20) (tgt := 29) dX11_watchers_20 (by decide) (fun c => ?_) (fun c => ?_)
  · replace h := h.1 c
    refine jw_aload_n (pc := 29) (j := 1) dX11_watchers_29 rfl rfl ?_
    refine jw_getR (pc := 30) (r := 62) dX11_watchers_30 sC_0 fl_X11_54 (by decide) rfl rfl ?_
    refine jw_aload_n (pc := 33) (j := 1) dX11_watchers_33 rfl rfl ?_
    refine jw_getR (pc := 34) (r := 29) dX11_watchers_34 sC_0 fl_X11_36 (by decide) rfl rfl ?_
    refine jw_getR (pc := 37) (r := 30) dX11_watchers_37 sC_29 fl_X11_157 (by decide) rfl rfl ?_
    refine jw_aload_n (pc := 40) (j := 1) dX11_watchers_40 rfl rfl ?_
    refine jw_getR (pc := 41) (r := 1) dX11_watchers_41 sC_0 fl_X11_11 (by decide) rfl rfl ?_
    refine jw_iload_n (pc := 44) (j := 2) dX11_watchers_44 rfl rfl ?_
    obtain ⟨j1, hj1, ej1, h⟩ := h
    refine jw_aald24 (pc := 45) (j := j1) (r := 77 + 2 * j1) dX11_watchers_45 sC_1 hj1 ej1 (by decide) (by simp [jel]) ?_
    refine jw_iload_n (pc := 46) (j := 3) dX11_watchers_46 rfl rfl ?_
    refine jw_callV (pc := 47) (m2 := mX0_fewestWatchers) (As := [.ref (x.2.2.2 30), .ref (x.2.2.2 (77 + 2 * j1)), .int a2]) (st := []) dX11_watchers_47 sC_62 (by decide) rfl rfl gm_X0_fewestWatchers ml_X11_337 rfl (Nat.le_of_ble_eq_true rfl) (JC.mono h ?_)
    clear h
    rintro M2 _ ⟨r2, rfl, h⟩
    refine jw_st (st' := [.int r2]) rfl ?_
    refine jw_istore (pc := 50) (ls' := [(4, .int r2), (3, .int r1), (0, .ref (x.2.2.2 0)), (1, .int a1), (2, .int a2)]) dX11_watchers_50 (by decide) rfl ?_
    refine jw_iload (pc := 52) (j := 0) dX11_watchers_52 rfl ?_
    refine jw_iconst (pc := 54) (v := (-1)) dX11_watchers_54 rfl ?_
    refine jw_icmp_ne (pc := 55) (tgt := 67) dX11_watchers_55 (by decide) (fun c => ?_) (fun c => ?_)
    · replace h := h.1 c
      refine jw_aload_n (pc := 67) (j := 2) dX11_watchers_67 rfl rfl ?_
      refine jw_iload (pc := 68) (j := 0) dX11_watchers_68 rfl ?_
      refine jw_callV (pc := 70) (m2 := mX11_answered) (As := [.int r2]) (st := []) dX11_watchers_70 sC_0 (by decide) rfl rfl gm_X11_answered ml_X11_165 rfl (Nat.le_of_ble_eq_true rfl) (JC.mono h ?_)
      clear h
      rintro M3 _ ⟨r3, rfl, h⟩
      refine jw_st (st' := [.int r3]) rfl ?_
      exact jw_iret (pc := 73) dX11_watchers_73 rfl ⟨_, rfl, h⟩
    · replace h := h.2 c
      refine jw_aload_n (pc := 58) (j := 2) dX11_watchers_58 rfl rfl ?_
      refine jw_bipush (pc := 59) (v := 9) dX11_watchers_59 rfl ?_
      refine jw_callV (pc := 61) (m2 := mX11_refused) (As := [.int (9 : Int32)]) (st := []) dX11_watchers_61 sC_0 (by decide) rfl rfl gm_X11_refused ml_X11_106 rfl (Nat.le_of_ble_eq_true rfl) (JC.mono h ?_)
      clear h
      rintro M4 _ ⟨r4, rfl, h⟩
      refine jw_st (st' := [.int r4]) rfl ?_
      refine jw_goto (pc := 64) (tgt := 73) dX11_watchers_64 (by decide) ?_
      exact jw_iret (pc := 73) dX11_watchers_73 rfl ⟨_, rfl, h⟩
  · replace h := h.2 c
    refine jw_aload_n (pc := 23) (j := 1) dX11_watchers_23 rfl rfl ?_
    refine jw_iload_n (pc := 24) (j := 0) dX11_watchers_24 rfl rfl ?_
    refine jw_callV (pc := 25) (m2 := mX11_refused) (As := [.int r1]) (st := []) dX11_watchers_25 sC_0 (by decide) rfl rfl gm_X11_refused ml_X11_106 rfl (Nat.le_of_ble_eq_true rfl) (JC.mono h ?_)
    clear h
    rintro M5 _ ⟨r5, rfl, h⟩
    refine jw_st (st' := [.int r5]) rfl ?_
    exact jw_iret (pc := 28) dX11_watchers_28 rfl ⟨_, rfl, h⟩
set_option maxRecDepth 20000 in
theorem b_X11_tenth {x : jX} {d : Nat} {M : jM} {P : jM → Int32 → Prop} {a1 : Int32} {a2 : Int32} 
    (h : JC x jtbC mX11_toldStatus d [.ref (x.2.2.2 0), .int a1, .int a2, .int (1 : Int32), .int (9 : Int32), .int (1 : Int32)] M (jI fun M1 r1 => (r1 = 0 → JW x jtbC mX11_tenth (d + 1) (jI P) 27 [(0, .ref (x.2.2.2 0)), (1, .int a1), (2, .int a2), (4, .int (0 : Int32)), (5, .int (0 : Int32))] [] M1) ∧ (¬ r1 = 0 → JC x jtbC mX11_refused d [.ref (x.2.2.2 0), .int r1] M1 (jI fun M2 r2 => P M2 r2)))) :
    JC x jtbC mX11_tenth (d + 1) [.ref (x.2.2.2 0), .int a1, .int a2] M (jI P) := by
  refine JC.of rfl (Nat.le_of_ble_eq_true rfl) ?_
  refine jw_ls (ls' := [(0, .ref (x.2.2.2 0)), (1, .int a1), (2, .int a2)]) rfl ?_
  refine jw_aload_n (pc := 0) (j := 0) dX11_tenth_0 rfl rfl ?_
  refine jw_iload_n (pc := 1) (j := 1) dX11_tenth_1 rfl rfl ?_
  refine jw_iload_n (pc := 2) (j := 2) dX11_tenth_2 rfl rfl ?_
  refine jw_iconst (pc := 3) (v := 1) dX11_tenth_3 rfl ?_
  refine jw_bipush (pc := 4) (v := 9) dX11_tenth_4 rfl ?_
  refine jw_iconst (pc := 6) (v := 1) dX11_tenth_6 rfl ?_
  refine jw_callV (pc := 7) (m2 := mX11_toldStatus) (As := [.int a1, .int a2, .int (1 : Int32), .int (9 : Int32), .int (1 : Int32)]) (st := []) dX11_tenth_7 sC_0 (by decide) rfl rfl gm_X11_toldStatus ml_X11_333 rfl (Nat.le_of_ble_eq_true rfl) (JC.mono h ?_)
  clear h
  rintro M1 _ ⟨r1, rfl, h⟩
  refine jw_st (st' := [.int r1]) rfl ?_
  refine jw_istore_n (pc := 10) (ls' := [(3, .int r1), (0, .ref (x.2.2.2 0)), (1, .int a1), (2, .int a2)]) dX11_tenth_10 rfl (by decide) rfl ?_
  refine jw_iload_n (pc := 11) (j := 0) dX11_tenth_11 rfl rfl ?_
  refine jw_if_eq (pc := 12) (tgt := 21) dX11_tenth_12 (by decide) (fun c => ?_) (fun c => ?_)
  · replace h := h.1 c
    refine jw_iconst (pc := 21) (v := 0) dX11_tenth_21 rfl ?_
    refine jw_istore (pc := 22) (ls' := [(4, .int (0 : Int32)), (3, .int r1), (0, .ref (x.2.2.2 0)), (1, .int a1), (2, .int a2)]) dX11_tenth_22 (by decide) rfl ?_
    refine jw_iconst (pc := 24) (v := 0) dX11_tenth_24 rfl ?_
    refine jw_istore (pc := 25) (ls' := [(5, .int (0 : Int32)), (4, .int (0 : Int32)), (3, .int r1), (0, .ref (x.2.2.2 0)), (1, .int a1), (2, .int a2)]) dX11_tenth_25 (by decide) rfl ?_
    exact jw_sub [3, 4, 5, 1, 0] rfl h
  · replace h := h.2 c
    refine jw_aload_n (pc := 15) (j := 1) dX11_tenth_15 rfl rfl ?_
    refine jw_iload_n (pc := 16) (j := 0) dX11_tenth_16 rfl rfl ?_
    refine jw_callV (pc := 17) (m2 := mX11_refused) (As := [.int r1]) (st := []) dX11_tenth_17 sC_0 (by decide) rfl rfl gm_X11_refused ml_X11_106 rfl (Nat.le_of_ble_eq_true rfl) (JC.mono h ?_)
    clear h
    rintro M2 _ ⟨r2, rfl, h⟩
    refine jw_st (st' := [.int r2]) rfl ?_
    exact jw_iret (pc := 20) dX11_tenth_20 rfl ⟨_, rfl, h⟩
set_option maxRecDepth 20000 in
theorem b_X11_tenth_27 {x : jX} {d : Nat} {M : jM} {P : jM → Int32 → Prop} {l1 : Int32} {l2 : Int32} {l4 : Int32} {l5 : Int32} 
    (h : ((8 : Int32) ≤ l5 → JC x jtbC mX11_answered d [.ref (x.2.2.2 0), .int l4] M (jI fun M1 r1 => P M1 r1)) ∧ (¬ (8 : Int32) ≤ l5 → JC x jtbC mX5_stripsFrom d [.ref (x.2.2.2 30), .int l5] M (jI fun M2 r2 => (¬ r2 = l2 → JW x jtbC mX11_tenth (d + 1) (jI P) 27 [(0, .ref (x.2.2.2 0)), (1, .int l1), (2, .int l2), (4, .int l4), (5, .int (l5 + 1))] [] M2) ∧ (r2 = l2 → JC x jtbC mX5_lookFrom d [.ref (x.2.2.2 30), .int l5, .ref (x.2.2.2 39), .ref (x.2.2.2 72), .int (0 : Int32)] M2 (jV fun M3 => ∃ j1, j1 < 4 ∧ l1 = nI j1 ∧ (JC x jtbC mX9_beginsLike d [.ref (x.2.2.2 (77 + 2 * j1)), .ref (x.2.2.2 72), .int l2] M3 (jZ fun M4 b1 => (b1 = false → JW x jtbC mX11_tenth (d + 1) (jI P) 27 [(0, .ref (x.2.2.2 0)), (1, .int l1), (2, .int l2), (4, .int (l4 ||| (0 : Int32))), (5, .int (l5 + 1))] [] M4) ∧ (b1 = true → JW x jtbC mX11_tenth (d + 1) (jI P) 27 [(0, .ref (x.2.2.2 0)), (1, .int l1), (2, .int l2), (4, .int (l4 ||| ((1 : Int32) <<< (l5 &&& 31)))), (5, .int (l5 + 1))] [] M4)))))))) :
    JW x jtbC mX11_tenth (d + 1) (jI P) 27 [(0, .ref (x.2.2.2 0)), (1, .int l1), (2, .int l2), (4, .int l4), (5, .int l5)] [] M := by
  refine jw_iload (pc := 27) (j := 4) dX11_tenth_27 rfl ?_
  refine jw_bipush (pc := 29) (v := 8) dX11_tenth_29 rfl ?_
  refine jw_icmp_ge (pc := 31) (tgt := 110) dX11_tenth_31 (by decide) (fun c => ?_) (fun c => ?_)
  · replace h := h.1 c
    refine jw_aload_n (pc := 110) (j := 0) dX11_tenth_110 rfl rfl ?_
    refine jw_iload (pc := 111) (j := 3) dX11_tenth_111 rfl ?_
    refine jw_callV (pc := 113) (m2 := mX11_answered) (As := [.int l4]) (st := []) dX11_tenth_113 sC_0 (by decide) rfl rfl gm_X11_answered ml_X11_165 rfl (Nat.le_of_ble_eq_true rfl) (JC.mono h ?_)
    clear h
    rintro M1 _ ⟨r1, rfl, h⟩
    refine jw_st (st' := [.int r1]) rfl ?_
    exact jw_iret (pc := 116) dX11_tenth_116 rfl ⟨_, rfl, h⟩
  · replace h := h.2 c
    refine jw_aload_n (pc := 34) (j := 0) dX11_tenth_34 rfl rfl ?_
    refine jw_getR (pc := 35) (r := 29) dX11_tenth_35 sC_0 fl_X11_36 (by decide) rfl rfl ?_
    refine jw_getR (pc := 38) (r := 30) dX11_tenth_38 sC_29 fl_X11_157 (by decide) rfl rfl ?_
    refine jw_iload (pc := 41) (j := 4) dX11_tenth_41 rfl ?_
    refine jw_callV (pc := 43) (m2 := mX5_stripsFrom) (As := [.int l5]) (st := []) dX11_tenth_43 sC_30 (by decide) rfl rfl gm_X5_stripsFrom ml_X11_341 rfl (Nat.le_of_ble_eq_true rfl) (JC.mono h ?_)
    clear h
    rintro M2 _ ⟨r2, rfl, h⟩
    refine jw_st (st' := [.int r2]) rfl ?_
    refine jw_iload_n (pc := 46) (j := 2) dX11_tenth_46 rfl rfl ?_
    refine jw_icmp_ne (pc := 47) (tgt := 104) dX11_tenth_47 (by decide) (fun c => ?_) (fun c => ?_)
    · replace h := h.1 c
      refine jw_iinc (pc := 104) (j := 4) (u := l5 + 1) (ls' := [(5, .int (l5 + 1)), (0, .ref (x.2.2.2 0)), (1, .int l1), (2, .int l2), (4, .int l4)]) dX11_tenth_104 rfl rfl (by decide) rfl ?_
      refine jw_goto (pc := 107) (tgt := 27) dX11_tenth_107 (by decide) ?_
      exact jw_sub [1, 2, 3, 4, 0] rfl h
    · replace h := h.2 c
      refine jw_aload_n (pc := 50) (j := 0) dX11_tenth_50 rfl rfl ?_
      refine jw_getR (pc := 51) (r := 29) dX11_tenth_51 sC_0 fl_X11_36 (by decide) rfl rfl ?_
      refine jw_getR (pc := 54) (r := 30) dX11_tenth_54 sC_29 fl_X11_157 (by decide) rfl rfl ?_
      refine jw_iload (pc := 57) (j := 4) dX11_tenth_57 rfl ?_
      refine jw_aload_n (pc := 59) (j := 0) dX11_tenth_59 rfl rfl ?_
      refine jw_getR (pc := 60) (r := 29) dX11_tenth_60 sC_0 fl_X11_36 (by decide) rfl rfl ?_
      refine jw_getR (pc := 63) (r := 39) dX11_tenth_63 sC_29 fl_X11_230 (by decide) rfl rfl ?_
      refine jw_aload_n (pc := 66) (j := 0) dX11_tenth_66 rfl rfl ?_
      refine jw_getR (pc := 67) (r := 72) dX11_tenth_67 sC_0 fl_X11_65 (by decide) rfl rfl ?_
      refine jw_iconst (pc := 70) (v := 0) dX11_tenth_70 rfl ?_
      refine jw_callV (pc := 71) (m2 := mX5_lookFrom) (As := [.int l5, .ref (x.2.2.2 39), .ref (x.2.2.2 72), .int (0 : Int32)]) (st := []) dX11_tenth_71 sC_30 (by decide) rfl rfl gm_X5_lookFrom ml_X11_344 rfl (Nat.le_of_ble_eq_true rfl) (JC.mono h ?_)
      clear h
      rintro M3 _ ⟨rfl, h⟩
      refine jw_st (st' := []) rfl ?_
      refine jw_iload (pc := 74) (j := 3) dX11_tenth_74 rfl ?_
      refine jw_aload_n (pc := 76) (j := 0) dX11_tenth_76 rfl rfl ?_
      refine jw_getR (pc := 77) (r := 1) dX11_tenth_77 sC_0 fl_X11_11 (by decide) rfl rfl ?_
      refine jw_iload_n (pc := 80) (j := 1) dX11_tenth_80 rfl rfl ?_
      obtain ⟨j1, hj1, ej1, h⟩ := h
      refine jw_aald24 (pc := 81) (j := j1) (r := 77 + 2 * j1) dX11_tenth_81 sC_1 hj1 ej1 (by decide) (by simp [jel]) ?_
      refine jw_aload_n (pc := 82) (j := 0) dX11_tenth_82 rfl rfl ?_
      refine jw_getR (pc := 83) (r := 72) dX11_tenth_83 sC_0 fl_X11_65 (by decide) rfl rfl ?_
      refine jw_iload_n (pc := 86) (j := 2) dX11_tenth_86 rfl rfl ?_
      refine jw_callV (pc := 87) (m2 := mX9_beginsLike) (As := [.ref (x.2.2.2 72), .int l2]) (st := [.int l4]) dX11_tenth_87 (at9 hj1).1 (by decide) rfl rfl gm_X9_beginsLike ml_X11_348 rfl (Nat.le_of_ble_eq_true rfl) (JC.mono h ?_)
      clear h
      rintro M4 _ ⟨b1, rfl, h⟩
      refine jw_st (st' := [.int (jb b1), .int l4]) rfl ?_
      refine jw_if_eq (pc := 90) (tgt := 100) dX11_tenth_90 (by decide) (fun c => ?_) (fun c => ?_)
      · replace h := h.1 ((jb_0 _).mp c)
        refine jw_iconst (pc := 100) (v := 0) dX11_tenth_100 rfl ?_
        refine jw_ior (pc := 101) dX11_tenth_101 ?_
        refine jw_istore (pc := 102) (ls' := [(4, .int (l4 ||| (0 : Int32))), (0, .ref (x.2.2.2 0)), (1, .int l1), (2, .int l2), (5, .int l5)]) dX11_tenth_102 (by decide) rfl ?_
        refine jw_iinc (pc := 104) (j := 4) (u := l5 + 1) (ls' := [(5, .int (l5 + 1)), (4, .int (l4 ||| (0 : Int32))), (0, .ref (x.2.2.2 0)), (1, .int l1), (2, .int l2)]) dX11_tenth_104 rfl rfl (by decide) rfl ?_
        refine jw_goto (pc := 107) (tgt := 27) dX11_tenth_107 (by decide) ?_
        exact jw_sub [2, 3, 4, 1, 0] rfl h
      · replace h := h.2 (jb_ne c)
        refine jw_iconst (pc := 93) (v := 1) dX11_tenth_93 rfl ?_
        refine jw_iload (pc := 94) (j := 4) dX11_tenth_94 rfl ?_
        refine jw_ishl (pc := 96) dX11_tenth_96 ?_
        refine jw_goto (pc := 97) (tgt := 101) dX11_tenth_97 (by decide) ?_
        refine jw_ior (pc := 101) dX11_tenth_101 ?_
        refine jw_istore (pc := 102) (ls' := [(4, .int (l4 ||| ((1 : Int32) <<< (l5 &&& 31)))), (0, .ref (x.2.2.2 0)), (1, .int l1), (2, .int l2), (5, .int l5)]) dX11_tenth_102 (by decide) rfl ?_
        refine jw_iinc (pc := 104) (j := 4) (u := l5 + 1) (ls' := [(5, .int (l5 + 1)), (4, .int (l4 ||| ((1 : Int32) <<< (l5 &&& 31)))), (0, .ref (x.2.2.2 0)), (1, .int l1), (2, .int l2)]) dX11_tenth_104 rfl rfl (by decide) rfl ?_
        refine jw_goto (pc := 107) (tgt := 27) dX11_tenth_107 (by decide) ?_
        exact jw_sub [2, 3, 4, 1, 0] rfl h
set_option maxRecDepth 20000 in
theorem b_X11_order {x : jX} {d : Nat} {M : jM} {P : jM → Int32 → Prop} {a1 : Int32} 
    (h : JC x jtbC mX11_trayRowStatus d [.ref (x.2.2.2 0), .int a1, .int (M.1 30 2)] M (jI fun M1 r1 => (r1 = 0 → ∃ c1, M1.1 30 2 = nI c1 ∧ 0 + c1 ≤ 25 ∧ 0 + c1 ≤ 25 ∧ (∀ M2, M2 = jrI M1 63 (va_cpy (M1.1 39) (M1.1 63) 0 0 c1) → ∃ j1, j1 < 4 ∧ a1 = nI j1 ∧ (JC x jtbC mX9_copyHeights d [.ref (x.2.2.2 (77 + 2 * j1)), .int (0 : Int32), .int (M2.1 30 2), .ref (x.2.2.2 64), .int (0 : Int32)] M2 (jV fun M3 => JC x jtbC mX0_cellsUnlike d [.ref (x.2.2.2 62), .ref (x.2.2.2 30)] M3 (jI fun M4 r2 => (r2 ≤ (12 : Int32) → JC x jtbC mX0_looksAlike d [.ref (x.2.2.2 62), .ref (x.2.2.2 30)] M4 (jZ fun M5 b1 => (b1 = true → JC x jtbC mX0_findOrder d [.ref (x.2.2.2 62), .ref (x.2.2.2 30)] M5 (jV fun M6 => JC x jtbC mX11_answered d [.ref (x.2.2.2 0), .int (M6.1 62 3)] M6 (jI fun M7 r3 => P M7 r3))) ∧ (b1 = false → JC x jtbC mX11_refused d [.ref (x.2.2.2 0), .int (9 : Int32)] M5 (jI fun M8 r4 => P M8 r4)))) ∧ (¬ r2 ≤ (12 : Int32) → JC x jtbC mX11_refused d [.ref (x.2.2.2 0), .int (7 : Int32)] M4 (jI fun M9 r5 => P M9 r5))))))) ∧ (¬ r1 = 0 → JC x jtbC mX11_refused d [.ref (x.2.2.2 0), .int r1] M1 (jI fun M10 r6 => P M10 r6)))) :
    JC x jtbC mX11_order (d + 1) [.ref (x.2.2.2 0), .int a1] M (jI P) := by
  refine JC.of rfl (Nat.le_of_ble_eq_true rfl) ?_
  refine jw_ls (ls' := [(0, .ref (x.2.2.2 0)), (1, .int a1)]) rfl ?_
  refine jw_aload_n (pc := 0) (j := 0) dX11_order_0 rfl rfl ?_
  refine jw_getR (pc := 1) (r := 29) dX11_order_1 sC_0 fl_X11_36 (by decide) rfl rfl ?_
  refine jw_getR (pc := 4) (r := 30) dX11_order_4 sC_29 fl_X11_157 (by decide) rfl rfl ?_
  refine jw_astore_n (pc := 7) (ls' := [(2, .ref (x.2.2.2 30)), (0, .ref (x.2.2.2 0)), (1, .int a1)]) dX11_order_7 rfl (by decide) rfl ?_
  refine jw_aload_n (pc := 8) (j := 1) dX11_order_8 rfl rfl ?_
  refine jw_iload_n (pc := 9) (j := 2) dX11_order_9 rfl rfl ?_
  refine jw_aload_n (pc := 10) (j := 0) dX11_order_10 rfl rfl ?_
  refine jw_getI (pc := 11) dX11_order_11 sC_30 fl_X11_160 (by decide) rfl ?_
  refine jw_callV (pc := 14) (m2 := mX11_trayRowStatus) (As := [.int a1, .int (M.1 30 2)]) (st := []) dX11_order_14 sC_0 (by decide) rfl rfl gm_X11_trayRowStatus ml_X11_237 rfl (Nat.le_of_ble_eq_true rfl) (JC.mono h ?_)
  clear h
  rintro M1 _ ⟨r1, rfl, h⟩
  refine jw_st (st' := [.int r1]) rfl ?_
  refine jw_istore_n (pc := 17) (ls' := [(3, .int r1), (2, .ref (x.2.2.2 30)), (0, .ref (x.2.2.2 0)), (1, .int a1)]) dX11_order_17 rfl (by decide) rfl ?_
  refine jw_iload_n (pc := 18) (j := 0) dX11_order_18 rfl rfl ?_
  refine jw_if_eq (pc := 19) (tgt := 28) dX11_order_19 (by decide) (fun c => ?_) (fun c => ?_)
  · replace h := h.1 c
    refine jw_aload_n (pc := 28) (j := 2) dX11_order_28 rfl rfl ?_
    refine jw_getR (pc := 29) (r := 29) dX11_order_29 sC_0 fl_X11_36 (by decide) rfl rfl ?_
    refine jw_getR (pc := 32) (r := 39) dX11_order_32 sC_29 fl_X11_230 (by decide) rfl rfl ?_
    refine jw_iconst (pc := 35) (v := 0) dX11_order_35 rfl ?_
    refine jw_aload_n (pc := 36) (j := 2) dX11_order_36 rfl rfl ?_
    refine jw_getR (pc := 37) (r := 62) dX11_order_37 sC_0 fl_X11_54 (by decide) rfl rfl ?_
    refine jw_getR (pc := 40) (r := 63) dX11_order_40 sC_62 fl_X11_323 (by decide) rfl rfl ?_
    refine jw_iconst (pc := 43) (v := 0) dX11_order_43 rfl ?_
    refine jw_aload_n (pc := 44) (j := 1) dX11_order_44 rfl rfl ?_
    refine jw_getI (pc := 45) dX11_order_45 sC_30 fl_X11_160 (by decide) rfl ?_
    obtain ⟨c1, ec1, q1, q2, h⟩ := h
    refine jw_copyI (pc := 48) (a := 0) (b := 0) (k := c1) (st := []) dX11_order_48 ac_X11_124 ac_n ac_s ac_i sC_39 sC_63 rfl rfl ec1 q1 q2 (by decide) (by decide) (jcw (Nat.le_of_ble_eq_true rfl)) ?_
    replace h := h _ rfl
    generalize jrI M1 63 (va_cpy (M1.1 39) (M1.1 63) 0 0 c1) = M2 at h ⊢
    refine jw_aload_n (pc := 51) (j := 2) dX11_order_51 rfl rfl ?_
    refine jw_getR (pc := 52) (r := 1) dX11_order_52 sC_0 fl_X11_11 (by decide) rfl rfl ?_
    refine jw_iload_n (pc := 55) (j := 3) dX11_order_55 rfl rfl ?_
    obtain ⟨j1, hj1, ej1, h⟩ := h
    refine jw_aald24 (pc := 56) (j := j1) (r := 77 + 2 * j1) dX11_order_56 sC_1 hj1 ej1 (by decide) (by simp [jel]) ?_
    refine jw_iconst (pc := 57) (v := 0) dX11_order_57 rfl ?_
    refine jw_aload_n (pc := 58) (j := 1) dX11_order_58 rfl rfl ?_
    refine jw_getI (pc := 59) dX11_order_59 sC_30 fl_X11_160 (by decide) rfl ?_
    refine jw_aload_n (pc := 62) (j := 2) dX11_order_62 rfl rfl ?_
    refine jw_getR (pc := 63) (r := 62) dX11_order_63 sC_0 fl_X11_54 (by decide) rfl rfl ?_
    refine jw_getR (pc := 66) (r := 64) dX11_order_66 sC_62 fl_X11_326 (by decide) rfl rfl ?_
    refine jw_iconst (pc := 69) (v := 0) dX11_order_69 rfl ?_
    refine jw_callV (pc := 70) (m2 := mX9_copyHeights) (As := [.int (0 : Int32), .int (M2.1 30 2), .ref (x.2.2.2 64), .int (0 : Int32)]) (st := []) dX11_order_70 (at9 hj1).1 (by decide) rfl rfl gm_X9_copyHeights ml_X11_240 rfl (Nat.le_of_ble_eq_true rfl) (JC.mono h ?_)
    clear h
    rintro M3 _ ⟨rfl, h⟩
    refine jw_st (st' := []) rfl ?_
    refine jw_aload_n (pc := 73) (j := 2) dX11_order_73 rfl rfl ?_
    refine jw_getR (pc := 74) (r := 62) dX11_order_74 sC_0 fl_X11_54 (by decide) rfl rfl ?_
    refine jw_aload_n (pc := 77) (j := 1) dX11_order_77 rfl rfl ?_
    refine jw_callV (pc := 78) (m2 := mX0_cellsUnlike) (As := [.ref (x.2.2.2 30)]) (st := []) dX11_order_78 sC_62 (by decide) rfl rfl gm_X0_cellsUnlike ml_X11_352 rfl (Nat.le_of_ble_eq_true rfl) (JC.mono h ?_)
    clear h
    rintro M4 _ ⟨r2, rfl, h⟩
    refine jw_st (st' := [.int r2]) rfl ?_
    refine jw_bipush (pc := 81) (v := 12) dX11_order_81 rfl ?_
    refine jw_icmp_le (pc := 83) (tgt := 93) dX11_order_83 (by decide) (fun c => ?_) (fun c => ?_)
    · replace h := h.1 c
      refine jw_aload_n (pc := 93) (j := 2) dX11_order_93 rfl rfl ?_
      refine jw_getR (pc := 94) (r := 62) dX11_order_94 sC_0 fl_X11_54 (by decide) rfl rfl ?_
      refine jw_aload_n (pc := 97) (j := 1) dX11_order_97 rfl rfl ?_
      refine jw_callV (pc := 98) (m2 := mX0_looksAlike) (As := [.ref (x.2.2.2 30)]) (st := []) dX11_order_98 sC_62 (by decide) rfl rfl gm_X0_looksAlike ml_X11_355 rfl (Nat.le_of_ble_eq_true rfl) (JC.mono h ?_)
      clear h
      rintro M5 _ ⟨b1, rfl, h⟩
      refine jw_st (st' := [.int (jb b1)]) rfl ?_
      refine jw_if_ne (pc := 101) (tgt := 111) dX11_order_101 (by decide) (fun c => ?_) (fun c => ?_)
      · replace h := h.1 (jb_ne c)
        refine jw_aload_n (pc := 111) (j := 2) dX11_order_111 rfl rfl ?_
        refine jw_getR (pc := 112) (r := 62) dX11_order_112 sC_0 fl_X11_54 (by decide) rfl rfl ?_
        refine jw_aload_n (pc := 115) (j := 1) dX11_order_115 rfl rfl ?_
        refine jw_callV (pc := 116) (m2 := mX0_findOrder) (As := [.ref (x.2.2.2 30)]) (st := []) dX11_order_116 sC_62 (by decide) rfl rfl gm_X0_findOrder ml_X11_358 rfl (Nat.le_of_ble_eq_true rfl) (JC.mono h ?_)
        clear h
        rintro M6 _ ⟨rfl, h⟩
        refine jw_st (st' := []) rfl ?_
        refine jw_aload_n (pc := 119) (j := 2) dX11_order_119 rfl rfl ?_
        refine jw_aload_n (pc := 120) (j := 2) dX11_order_120 rfl rfl ?_
        refine jw_getR (pc := 121) (r := 62) dX11_order_121 sC_0 fl_X11_54 (by decide) rfl rfl ?_
        refine jw_getI (pc := 124) dX11_order_124 sC_62 fl_X11_361 (by decide) rfl ?_
        refine jw_callV (pc := 127) (m2 := mX11_answered) (As := [.int (M6.1 62 3)]) (st := []) dX11_order_127 sC_0 (by decide) rfl rfl gm_X11_answered ml_X11_165 rfl (Nat.le_of_ble_eq_true rfl) (JC.mono h ?_)
        clear h
        rintro M7 _ ⟨r3, rfl, h⟩
        refine jw_st (st' := [.int r3]) rfl ?_
        exact jw_iret (pc := 130) dX11_order_130 rfl ⟨_, rfl, h⟩
      · replace h := h.2 ((jb_0 _).mp c)
        refine jw_aload_n (pc := 104) (j := 2) dX11_order_104 rfl rfl ?_
        refine jw_bipush (pc := 105) (v := 9) dX11_order_105 rfl ?_
        refine jw_callV (pc := 107) (m2 := mX11_refused) (As := [.int (9 : Int32)]) (st := []) dX11_order_107 sC_0 (by decide) rfl rfl gm_X11_refused ml_X11_106 rfl (Nat.le_of_ble_eq_true rfl) (JC.mono h ?_)
        clear h
        rintro M8 _ ⟨r4, rfl, h⟩
        refine jw_st (st' := [.int r4]) rfl ?_
        exact jw_iret (pc := 110) dX11_order_110 rfl ⟨_, rfl, h⟩
    · replace h := h.2 c
      refine jw_aload_n (pc := 86) (j := 2) dX11_order_86 rfl rfl ?_
      refine jw_bipush (pc := 87) (v := 7) dX11_order_87 rfl ?_
      refine jw_callV (pc := 89) (m2 := mX11_refused) (As := [.int (7 : Int32)]) (st := []) dX11_order_89 sC_0 (by decide) rfl rfl gm_X11_refused ml_X11_106 rfl (Nat.le_of_ble_eq_true rfl) (JC.mono h ?_)
      clear h
      rintro M9 _ ⟨r5, rfl, h⟩
      refine jw_st (st' := [.int r5]) rfl ?_
      exact jw_iret (pc := 92) dX11_order_92 rfl ⟨_, rfl, h⟩
  · replace h := h.2 c
    refine jw_aload_n (pc := 22) (j := 2) dX11_order_22 rfl rfl ?_
    refine jw_iload_n (pc := 23) (j := 0) dX11_order_23 rfl rfl ?_
    refine jw_callV (pc := 24) (m2 := mX11_refused) (As := [.int r1]) (st := []) dX11_order_24 sC_0 (by decide) rfl rfl gm_X11_refused ml_X11_106 rfl (Nat.le_of_ble_eq_true rfl) (JC.mono h ?_)
    clear h
    rintro M10 _ ⟨r6, rfl, h⟩
    refine jw_st (st' := [.int r6]) rfl ?_
    exact jw_iret (pc := 27) dX11_order_27 rfl ⟨_, rfl, h⟩
set_option maxRecDepth 20000 in
theorem b_X11_orderAt {x : jX} {d : Nat} {M : jM} {P : jM → Int32 → Prop} {a1 : Int32} 
    (h : (a1 < 0 → JC x jtbC mX11_refused d [.ref (x.2.2.2 0), .int (8 : Int32)] M (jI fun M1 r1 => P M1 r1)) ∧ (¬ a1 < 0 → (a1 < (M.1 62 3) → ∃ j1, j1 < 12 ∧ a1 = nI j1 ∧ (JC x jtbC mX11_answered d [.ref (x.2.2.2 0), .int (M.1 65 j1)] M (jI fun M2 r2 => P M2 r2))) ∧ (¬ a1 < (M.1 62 3) → JC x jtbC mX11_refused d [.ref (x.2.2.2 0), .int (8 : Int32)] M (jI fun M3 r3 => P M3 r3)))) :
    JC x jtbC mX11_orderAt (d + 1) [.ref (x.2.2.2 0), .int a1] M (jI P) := by
  refine JC.of rfl (Nat.le_of_ble_eq_true rfl) ?_
  refine jw_ls (ls' := [(0, .ref (x.2.2.2 0)), (1, .int a1)]) rfl ?_
  refine jw_iload_n (pc := 0) (j := 1) dX11_orderAt_0 rfl rfl ?_
  refine jw_if_lt (pc := 1) (tgt := 15) dX11_orderAt_1 (by decide) (fun c => ?_) (fun c => ?_)
  · replace h := h.1 c
    refine jw_aload_n (pc := 15) (j := 0) dX11_orderAt_15 rfl rfl ?_
    refine jw_bipush (pc := 16) (v := 8) dX11_orderAt_16 rfl ?_
    refine jw_callV (pc := 18) (m2 := mX11_refused) (As := [.int (8 : Int32)]) (st := []) dX11_orderAt_18 sC_0 (by decide) rfl rfl gm_X11_refused ml_X11_106 rfl (Nat.le_of_ble_eq_true rfl) (JC.mono h ?_)
    clear h
    rintro M1 _ ⟨r1, rfl, h⟩
    refine jw_st (st' := [.int r1]) rfl ?_
    exact jw_iret (pc := 21) dX11_orderAt_21 rfl ⟨_, rfl, h⟩
  · replace h := h.2 c
    refine jw_iload_n (pc := 4) (j := 1) dX11_orderAt_4 rfl rfl ?_
    refine jw_aload_n (pc := 5) (j := 0) dX11_orderAt_5 rfl rfl ?_
    refine jw_getR (pc := 6) (r := 62) dX11_orderAt_6 sC_0 fl_X11_54 (by decide) rfl rfl ?_
    refine jw_getI (pc := 9) dX11_orderAt_9 sC_62 fl_X11_361 (by decide) rfl ?_
    refine jw_icmp_lt (pc := 12) (tgt := 22) dX11_orderAt_12 (by decide) (fun c => ?_) (fun c => ?_)
    · replace h := h.1 c
      refine jw_aload_n (pc := 22) (j := 0) dX11_orderAt_22 rfl rfl ?_
      refine jw_aload_n (pc := 23) (j := 0) dX11_orderAt_23 rfl rfl ?_
      refine jw_getR (pc := 24) (r := 62) dX11_orderAt_24 sC_0 fl_X11_54 (by decide) rfl rfl ?_
      refine jw_getR (pc := 27) (r := 65) dX11_orderAt_27 sC_62 fl_X11_364 (by decide) rfl rfl ?_
      refine jw_iload_n (pc := 30) (j := 1) dX11_orderAt_30 rfl rfl ?_
      obtain ⟨j1, hj1, ej1, h⟩ := h
      refine jw_iald (pc := 31) (j := j1) dX11_orderAt_31 sC_65 hj1 ej1 (by decide) ?_
      refine jw_callV (pc := 32) (m2 := mX11_answered) (As := [.int (M.1 65 j1)]) (st := []) dX11_orderAt_32 sC_0 (by decide) rfl rfl gm_X11_answered ml_X11_165 rfl (Nat.le_of_ble_eq_true rfl) (JC.mono h ?_)
      clear h
      rintro M2 _ ⟨r2, rfl, h⟩
      refine jw_st (st' := [.int r2]) rfl ?_
      exact jw_iret (pc := 35) dX11_orderAt_35 rfl ⟨_, rfl, h⟩
    · replace h := h.2 c
      refine jw_aload_n (pc := 15) (j := 0) dX11_orderAt_15 rfl rfl ?_
      refine jw_bipush (pc := 16) (v := 8) dX11_orderAt_16 rfl ?_
      refine jw_callV (pc := 18) (m2 := mX11_refused) (As := [.int (8 : Int32)]) (st := []) dX11_orderAt_18 sC_0 (by decide) rfl rfl gm_X11_refused ml_X11_106 rfl (Nat.le_of_ble_eq_true rfl) (JC.mono h ?_)
      clear h
      rintro M3 _ ⟨r3, rfl, h⟩
      refine jw_st (st' := [.int r3]) rfl ?_
      exact jw_iret (pc := 21) dX11_orderAt_21 rfl ⟨_, rfl, h⟩
set_option maxRecDepth 20000 in
theorem b_X11_like {x : jX} {d : Nat} {M : jM} {P : jM → Int32 → Prop} {a1 : Int32} {a2 : Int32} 
    (h : JC x jtbC mX11_toldStatus d [.ref (x.2.2.2 0), .int a1, .int a2, .int (1 : Int32), .int (9 : Int32), .int (1 : Int32)] M (jI fun M1 r1 => (r1 = 0 → (¬ (M1.1 30 3) = 0 → JW x jtbC mX11_like (d + 1) (jI P) 48 [(0, .ref (x.2.2.2 0)), (1, .int a1), (2, .int a2), (4, .ref (x.2.2.2 30)), (5, .int (0 : Int32))] [] M1) ∧ ((M1.1 30 3) = 0 → JC x jtbC mX11_refused d [.ref (x.2.2.2 0), .int (8 : Int32)] M1 (jI fun M2 r2 => P M2 r2))) ∧ (¬ r1 = 0 → JC x jtbC mX11_refused d [.ref (x.2.2.2 0), .int r1] M1 (jI fun M3 r3 => P M3 r3)))) :
    JC x jtbC mX11_like (d + 1) [.ref (x.2.2.2 0), .int a1, .int a2] M (jI P) := by
  refine JC.of rfl (Nat.le_of_ble_eq_true rfl) ?_
  refine jw_ls (ls' := [(0, .ref (x.2.2.2 0)), (1, .int a1), (2, .int a2)]) rfl ?_
  refine jw_aload_n (pc := 0) (j := 0) dX11_like_0 rfl rfl ?_
  refine jw_iload_n (pc := 1) (j := 1) dX11_like_1 rfl rfl ?_
  refine jw_iload_n (pc := 2) (j := 2) dX11_like_2 rfl rfl ?_
  refine jw_iconst (pc := 3) (v := 1) dX11_like_3 rfl ?_
  refine jw_bipush (pc := 4) (v := 9) dX11_like_4 rfl ?_
  refine jw_iconst (pc := 6) (v := 1) dX11_like_6 rfl ?_
  refine jw_callV (pc := 7) (m2 := mX11_toldStatus) (As := [.int a1, .int a2, .int (1 : Int32), .int (9 : Int32), .int (1 : Int32)]) (st := []) dX11_like_7 sC_0 (by decide) rfl rfl gm_X11_toldStatus ml_X11_333 rfl (Nat.le_of_ble_eq_true rfl) (JC.mono h ?_)
  clear h
  rintro M1 _ ⟨r1, rfl, h⟩
  refine jw_st (st' := [.int r1]) rfl ?_
  refine jw_istore_n (pc := 10) (ls' := [(3, .int r1), (0, .ref (x.2.2.2 0)), (1, .int a1), (2, .int a2)]) dX11_like_10 rfl (by decide) rfl ?_
  refine jw_iload_n (pc := 11) (j := 0) dX11_like_11 rfl rfl ?_
  refine jw_if_eq (pc := 12) (tgt := 21) dX11_like_12 (by decide) (fun c => ?_) (fun c => ?_)
  · replace h := h.1 c
    refine jw_aload_n (pc := 21) (j := 1) dX11_like_21 rfl rfl ?_
    refine jw_getR (pc := 22) (r := 29) dX11_like_22 sC_0 fl_X11_36 (by decide) rfl rfl ?_
    refine jw_getR (pc := 25) (r := 30) dX11_like_25 sC_29 fl_X11_157 (by decide) rfl rfl ?_
    refine jw_astore (pc := 28) (ls' := [(4, .ref (x.2.2.2 30)), (3, .int r1), (0, .ref (x.2.2.2 0)), (1, .int a1), (2, .int a2)]) dX11_like_28 (by decide) rfl ?_
    refine jw_aload (pc := 30) (j := 0) dX11_like_30 rfl ?_
    refine jw_getI (pc := 32) dX11_like_32 sC_30 fl_X11_194 (by decide) rfl ?_
    refine jw_if_ne (pc := 35) (tgt := 45) dX11_like_35 (by decide) (fun c => ?_) (fun c => ?_)
    · replace h := h.1 c
      refine jw_iconst (pc := 45) (v := 0) dX11_like_45 rfl ?_
      refine jw_istore (pc := 46) (ls' := [(5, .int (0 : Int32)), (4, .ref (x.2.2.2 30)), (3, .int r1), (0, .ref (x.2.2.2 0)), (1, .int a1), (2, .int a2)]) dX11_like_46 (by decide) rfl ?_
      exact jw_sub [3, 4, 5, 1, 0] rfl h
    · replace h := h.2 c
      refine jw_aload_n (pc := 38) (j := 2) dX11_like_38 rfl rfl ?_
      refine jw_bipush (pc := 39) (v := 8) dX11_like_39 rfl ?_
      refine jw_callV (pc := 41) (m2 := mX11_refused) (As := [.int (8 : Int32)]) (st := []) dX11_like_41 sC_0 (by decide) rfl rfl gm_X11_refused ml_X11_106 rfl (Nat.le_of_ble_eq_true rfl) (JC.mono h ?_)
      clear h
      rintro M2 _ ⟨r2, rfl, h⟩
      refine jw_st (st' := [.int r2]) rfl ?_
      exact jw_iret (pc := 44) dX11_like_44 rfl ⟨_, rfl, h⟩
  · replace h := h.2 c
    refine jw_aload_n (pc := 15) (j := 1) dX11_like_15 rfl rfl ?_
    refine jw_iload_n (pc := 16) (j := 0) dX11_like_16 rfl rfl ?_
    refine jw_callV (pc := 17) (m2 := mX11_refused) (As := [.int r1]) (st := []) dX11_like_17 sC_0 (by decide) rfl rfl gm_X11_refused ml_X11_106 rfl (Nat.le_of_ble_eq_true rfl) (JC.mono h ?_)
    clear h
    rintro M3 _ ⟨r3, rfl, h⟩
    refine jw_st (st' := [.int r3]) rfl ?_
    exact jw_iret (pc := 20) dX11_like_20 rfl ⟨_, rfl, h⟩
set_option maxRecDepth 20000 in
theorem b_X11_like_48 {x : jX} {d : Nat} {M : jM} {P : jM → Int32 → Prop} {l1 : Int32} {l2 : Int32} {l5 : Int32} 
    (h : ((M.1 30 3) ≤ l5 → JC x jtbC mX8_wantFromAll d [.ref (x.2.2.2 49), .ref (x.2.2.2 30), .ref (x.2.2.2 72)] M (jV fun M1 => JC x jtbC mX8_canBeKept d [.ref (x.2.2.2 49), .ref (x.2.2.2 30)] M1 (jZ fun M2 b1 => (b1 = false → JC x jtbC mX11_answered d [.ref (x.2.2.2 0), .int (0 : Int32)] M2 (jI fun M3 r1 => P M3 r1)) ∧ (b1 = true → JC x jtbC mX11_answered d [.ref (x.2.2.2 0), .int (1 : Int32)] M2 (jI fun M4 r2 => P M4 r2))))) ∧ (¬ (M.1 30 3) ≤ l5 → JC x jtbC mX5_stripsOf d [.ref (x.2.2.2 30), .int l5] M (jI fun M5 r3 => (r3 = l2 → ∃ j1, j1 < 4 ∧ l1 = nI j1 ∧ (JC x jtbC mX9_copyHeights d [.ref (x.2.2.2 (77 + 2 * j1)), .int (0 : Int32), .int l2, .ref (x.2.2.2 72), .int (l5 * (9 : Int32))] M5 (jV fun M6 => JW x jtbC mX11_like (d + 1) (jI P) 48 [(0, .ref (x.2.2.2 0)), (1, .int l1), (2, .int l2), (4, .ref (x.2.2.2 30)), (5, .int (l5 + 1))] [] M6))) ∧ (¬ r3 = l2 → JC x jtbC mX11_refused d [.ref (x.2.2.2 0), .int (9 : Int32)] M5 (jI fun M7 r4 => P M7 r4))))) :
    JW x jtbC mX11_like (d + 1) (jI P) 48 [(0, .ref (x.2.2.2 0)), (1, .int l1), (2, .int l2), (4, .ref (x.2.2.2 30)), (5, .int l5)] [] M := by
  refine jw_iload (pc := 48) (j := 4) dX11_like_48 rfl ?_
  refine jw_aload (pc := 50) (j := 3) dX11_like_50 rfl ?_
  refine jw_getI (pc := 52) dX11_like_52 sC_30 fl_X11_194 (by decide) rfl ?_
  refine jw_icmp_ge (pc := 55) (tgt := 102) dX11_like_55 (by decide) (fun c => ?_) (fun c => ?_)
  · replace h := h.1 c
    refine jw_aload_n (pc := 102) (j := 0) dX11_like_102 rfl rfl ?_
    refine jw_getR (pc := 103) (r := 49) dX11_like_103 sC_0 fl_X11_47 (by decide) rfl rfl ?_
    refine jw_aload (pc := 106) (j := 3) dX11_like_106 rfl ?_
    refine jw_aload_n (pc := 108) (j := 0) dX11_like_108 rfl rfl ?_
    refine jw_getR (pc := 109) (r := 72) dX11_like_109 sC_0 fl_X11_65 (by decide) rfl rfl ?_
    refine jw_callV (pc := 112) (m2 := mX8_wantFromAll) (As := [.ref (x.2.2.2 30), .ref (x.2.2.2 72)]) (st := []) dX11_like_112 sC_49 (by decide) rfl rfl gm_X8_wantFromAll ml_X11_367 rfl (Nat.le_of_ble_eq_true rfl) (JC.mono h ?_)
    clear h
    rintro M1 _ ⟨rfl, h⟩
    refine jw_st (st' := []) rfl ?_
    refine jw_aload_n (pc := 115) (j := 0) dX11_like_115 rfl rfl ?_
    refine jw_aload_n (pc := 116) (j := 0) dX11_like_116 rfl rfl ?_
    refine jw_getR (pc := 117) (r := 49) dX11_like_117 sC_0 fl_X11_47 (by decide) rfl rfl ?_
    refine jw_aload (pc := 120) (j := 3) dX11_like_120 rfl ?_
    refine jw_callV (pc := 122) (m2 := mX8_canBeKept) (As := [.ref (x.2.2.2 30)]) (st := [.ref (x.2.2.2 0)]) dX11_like_122 sC_49 (by decide) rfl rfl gm_X8_canBeKept ml_X11_315 rfl (Nat.le_of_ble_eq_true rfl) (JC.mono h ?_)
    clear h
    rintro M2 _ ⟨b1, rfl, h⟩
    refine jw_st (st' := [.int (jb b1), .ref (x.2.2.2 0)]) rfl ?_
    refine jw_if_eq (pc := 125) (tgt := 132) dX11_like_125 (by decide) (fun c => ?_) (fun c => ?_)
    · replace h := h.1 ((jb_0 _).mp c)
      refine jw_iconst (pc := 132) (v := 0) dX11_like_132 rfl ?_
      refine jw_callV (pc := 133) (m2 := mX11_answered) (As := [.int (0 : Int32)]) (st := []) dX11_like_133 sC_0 (by decide) rfl rfl gm_X11_answered ml_X11_165 rfl (Nat.le_of_ble_eq_true rfl) (JC.mono h ?_)
      clear h
      rintro M3 _ ⟨r1, rfl, h⟩
      refine jw_st (st' := [.int r1]) rfl ?_
      exact jw_iret (pc := 136) dX11_like_136 rfl ⟨_, rfl, h⟩
    · replace h := h.2 (jb_ne c)
      refine jw_iconst (pc := 128) (v := 1) dX11_like_128 rfl ?_
      refine jw_goto (pc := 129) (tgt := 133) dX11_like_129 (by decide) ?_
      refine jw_callV (pc := 133) (m2 := mX11_answered) (As := [.int (1 : Int32)]) (st := []) dX11_like_133 sC_0 (by decide) rfl rfl gm_X11_answered ml_X11_165 rfl (Nat.le_of_ble_eq_true rfl) (JC.mono h ?_)
      clear h
      rintro M4 _ ⟨r2, rfl, h⟩
      refine jw_st (st' := [.int r2]) rfl ?_
      exact jw_iret (pc := 136) dX11_like_136 rfl ⟨_, rfl, h⟩
  · replace h := h.2 c
    refine jw_aload (pc := 58) (j := 3) dX11_like_58 rfl ?_
    refine jw_iload (pc := 60) (j := 4) dX11_like_60 rfl ?_
    refine jw_callV (pc := 62) (m2 := mX5_stripsOf) (As := [.int l5]) (st := []) dX11_like_62 sC_30 (by decide) rfl rfl gm_X5_stripsOf ml_X11_215 rfl (Nat.le_of_ble_eq_true rfl) (JC.mono h ?_)
    clear h
    rintro M5 _ ⟨r3, rfl, h⟩
    refine jw_st (st' := [.int r3]) rfl ?_
    refine jw_iload_n (pc := 65) (j := 2) dX11_like_65 rfl rfl ?_
    refine jw_icmp_eq (pc := 66) (tgt := 76) dX11_like_66 (by decide) (fun c => ?_) (fun c => ?_)
    · replace h := h.1 c
      refine jw_aload_n (pc := 76) (j := 0) dX11_like_76 rfl rfl ?_
      refine jw_getR (pc := 77) (r := 1) dX11_like_77 sC_0 fl_X11_11 (by decide) rfl rfl ?_
      refine jw_iload_n (pc := 80) (j := 1) dX11_like_80 rfl rfl ?_
      obtain ⟨j1, hj1, ej1, h⟩ := h
      refine jw_aald24 (pc := 81) (j := j1) (r := 77 + 2 * j1) dX11_like_81 sC_1 hj1 ej1 (by decide) (by simp [jel]) ?_
      refine jw_iconst (pc := 82) (v := 0) dX11_like_82 rfl ?_
      refine jw_iload_n (pc := 83) (j := 2) dX11_like_83 rfl rfl ?_
      refine jw_aload_n (pc := 84) (j := 0) dX11_like_84 rfl rfl ?_
      refine jw_getR (pc := 85) (r := 72) dX11_like_85 sC_0 fl_X11_65 (by decide) rfl rfl ?_
      refine jw_iload (pc := 88) (j := 4) dX11_like_88 rfl ?_
      refine jw_bipush (pc := 90) (v := 9) dX11_like_90 rfl ?_
      refine jw_imul (pc := 92) dX11_like_92 ?_
      refine jw_callV (pc := 93) (m2 := mX9_copyHeights) (As := [.int (0 : Int32), .int l2, .ref (x.2.2.2 72), .int (l5 * (9 : Int32))]) (st := []) dX11_like_93 (at9 hj1).1 (by decide) rfl rfl gm_X9_copyHeights ml_X11_240 rfl (Nat.le_of_ble_eq_true rfl) (JC.mono h ?_)
      clear h
      rintro M6 _ ⟨rfl, h⟩
      refine jw_st (st' := []) rfl ?_
      refine jw_iinc (pc := 96) (j := 4) (u := l5 + 1) (ls' := [(5, .int (l5 + 1)), (0, .ref (x.2.2.2 0)), (1, .int l1), (2, .int l2), (4, .ref (x.2.2.2 30))]) dX11_like_96 rfl rfl (by decide) rfl ?_
      refine jw_goto (pc := 99) (tgt := 48) dX11_like_99 (by decide) ?_
      exact jw_sub [1, 2, 3, 4, 0] rfl h
    · replace h := h.2 c
      refine jw_aload_n (pc := 69) (j := 0) dX11_like_69 rfl rfl ?_
      refine jw_bipush (pc := 70) (v := 9) dX11_like_70 rfl ?_
      refine jw_callV (pc := 72) (m2 := mX11_refused) (As := [.int (9 : Int32)]) (st := []) dX11_like_72 sC_0 (by decide) rfl rfl gm_X11_refused ml_X11_106 rfl (Nat.le_of_ble_eq_true rfl) (JC.mono h ?_)
      clear h
      rintro M7 _ ⟨r4, rfl, h⟩
      refine jw_st (st' := [.int r4]) rfl ?_
      exact jw_iret (pc := 75) dX11_like_75 rfl ⟨_, rfl, h⟩
set_option maxRecDepth 20000 in
theorem b_X11_highest {x : jX} {d : Nat} {M : jM} {P : jM → Int32 → Prop}  
    (h : (¬ (M.1 30 3) = 0 → JC x jtbC mX5_lowestSight d [.ref (x.2.2.2 30), .ref (x.2.2.2 31)] M (jI fun M1 r1 => JC x jtbC mJ7_fill_53178 d [.ref (x.2.2.2 72), .int r1] M1 (jV fun M2 => JC x jtbC mX8_wantFromAll d [.ref (x.2.2.2 49), .ref (x.2.2.2 30), .ref (x.2.2.2 72)] M2 (jV fun M3 => JC x jtbC mX8_canBeKept d [.ref (x.2.2.2 49), .ref (x.2.2.2 30)] M3 (jZ fun M4 b1 => (b1 = false → JC x jtbC mX11_refused d [.ref (x.2.2.2 0), .int (8 : Int32)] M4 (jI fun M5 r2 => P M5 r2)) ∧ (b1 = true → JC x jtbC mX11_answered d [.ref (x.2.2.2 0), .int r1] M4 (jI fun M6 r3 => P M6 r3))))))) ∧ ((M.1 30 3) = 0 → JC x jtbC mX11_refused d [.ref (x.2.2.2 0), .int (8 : Int32)] M (jI fun M7 r4 => P M7 r4))) :
    JC x jtbC mX11_highest (d + 1) [.ref (x.2.2.2 0)] M (jI P) := by
  refine JC.of rfl (Nat.le_of_ble_eq_true rfl) ?_
  refine jw_ls (ls' := [(0, .ref (x.2.2.2 0))]) rfl ?_
  refine jw_aload_n (pc := 0) (j := 0) dX11_highest_0 rfl rfl ?_
  refine jw_getR (pc := 1) (r := 29) dX11_highest_1 sC_0 fl_X11_36 (by decide) rfl rfl ?_
  refine jw_getR (pc := 4) (r := 30) dX11_highest_4 sC_29 fl_X11_157 (by decide) rfl rfl ?_
  refine jw_astore_n (pc := 7) (ls' := [(1, .ref (x.2.2.2 30)), (0, .ref (x.2.2.2 0))]) dX11_highest_7 rfl (by decide) rfl ?_
  refine jw_aload_n (pc := 8) (j := 0) dX11_highest_8 rfl rfl ?_
  refine jw_getI (pc := 9) dX11_highest_9 sC_30 fl_X11_194 (by decide) rfl ?_
  refine jw_if_ne (pc := 12) (tgt := 22) dX11_highest_12 (by decide) (fun c => ?_) (fun c => ?_)
  · replace h := h.1 c
    refine jw_aload_n (pc := 22) (j := 0) dX11_highest_22 rfl rfl ?_
    refine jw_aload_n (pc := 23) (j := 0) dX11_highest_23 rfl rfl ?_
    refine jw_getR (pc := 24) (r := 31) dX11_highest_24 sC_30 fl_X11_200 (by decide) rfl rfl ?_
    refine jw_callV (pc := 27) (m2 := mX5_lowestSight) (As := [.ref (x.2.2.2 31)]) (st := []) dX11_highest_27 sC_30 (by decide) rfl rfl gm_X5_lowestSight ml_X11_370 rfl (Nat.le_of_ble_eq_true rfl) (JC.mono h ?_)
    clear h
    rintro M1 _ ⟨r1, rfl, h⟩
    refine jw_st (st' := [.int r1]) rfl ?_
    refine jw_istore_n (pc := 30) (ls' := [(2, .int r1), (1, .ref (x.2.2.2 30)), (0, .ref (x.2.2.2 0))]) dX11_highest_30 rfl (by decide) rfl ?_
    refine jw_aload_n (pc := 31) (j := 2) dX11_highest_31 rfl rfl ?_
    refine jw_getR (pc := 32) (r := 72) dX11_highest_32 sC_0 fl_X11_65 (by decide) rfl rfl ?_
    refine jw_iload_n (pc := 35) (j := 0) dX11_highest_35 rfl rfl ?_
    refine jw_callS (pc := 36) (m2 := mJ7_fill_53178) (As := [.ref (x.2.2.2 72), .int r1]) (st := []) dX11_highest_36 gm_J7_fill_53178 ml_X11_373 rfl (Nat.le_of_ble_eq_true rfl) (JC.mono h ?_)
    clear h
    rintro M2 _ ⟨rfl, h⟩
    refine jw_st (st' := []) rfl ?_
    refine jw_aload_n (pc := 39) (j := 2) dX11_highest_39 rfl rfl ?_
    refine jw_getR (pc := 40) (r := 49) dX11_highest_40 sC_0 fl_X11_47 (by decide) rfl rfl ?_
    refine jw_aload_n (pc := 43) (j := 1) dX11_highest_43 rfl rfl ?_
    refine jw_aload_n (pc := 44) (j := 2) dX11_highest_44 rfl rfl ?_
    refine jw_getR (pc := 45) (r := 72) dX11_highest_45 sC_0 fl_X11_65 (by decide) rfl rfl ?_
    refine jw_callV (pc := 48) (m2 := mX8_wantFromAll) (As := [.ref (x.2.2.2 30), .ref (x.2.2.2 72)]) (st := []) dX11_highest_48 sC_49 (by decide) rfl rfl gm_X8_wantFromAll ml_X11_367 rfl (Nat.le_of_ble_eq_true rfl) (JC.mono h ?_)
    clear h
    rintro M3 _ ⟨rfl, h⟩
    refine jw_st (st' := []) rfl ?_
    refine jw_aload_n (pc := 51) (j := 2) dX11_highest_51 rfl rfl ?_
    refine jw_getR (pc := 52) (r := 49) dX11_highest_52 sC_0 fl_X11_47 (by decide) rfl rfl ?_
    refine jw_aload_n (pc := 55) (j := 1) dX11_highest_55 rfl rfl ?_
    refine jw_callV (pc := 56) (m2 := mX8_canBeKept) (As := [.ref (x.2.2.2 30)]) (st := []) dX11_highest_56 sC_49 (by decide) rfl rfl gm_X8_canBeKept ml_X11_315 rfl (Nat.le_of_ble_eq_true rfl) (JC.mono h ?_)
    clear h
    rintro M4 _ ⟨b1, rfl, h⟩
    refine jw_st (st' := [.int (jb b1)]) rfl ?_
    refine jw_if_eq (pc := 59) (tgt := 70) dX11_highest_59 (by decide) (fun c => ?_) (fun c => ?_)
    · replace h := h.1 ((jb_0 _).mp c)
      refine jw_aload_n (pc := 70) (j := 2) dX11_highest_70 rfl rfl ?_
      refine jw_bipush (pc := 71) (v := 8) dX11_highest_71 rfl ?_
      refine jw_callV (pc := 73) (m2 := mX11_refused) (As := [.int (8 : Int32)]) (st := []) dX11_highest_73 sC_0 (by decide) rfl rfl gm_X11_refused ml_X11_106 rfl (Nat.le_of_ble_eq_true rfl) (JC.mono h ?_)
      clear h
      rintro M5 _ ⟨r2, rfl, h⟩
      refine jw_st (st' := [.int r2]) rfl ?_
      exact jw_iret (pc := 76) dX11_highest_76 rfl ⟨_, rfl, h⟩
    · replace h := h.2 (jb_ne c)
      refine jw_aload_n (pc := 62) (j := 2) dX11_highest_62 rfl rfl ?_
      refine jw_iload_n (pc := 63) (j := 0) dX11_highest_63 rfl rfl ?_
      refine jw_callV (pc := 64) (m2 := mX11_answered) (As := [.int r1]) (st := []) dX11_highest_64 sC_0 (by decide) rfl rfl gm_X11_answered ml_X11_165 rfl (Nat.le_of_ble_eq_true rfl) (JC.mono h ?_)
      clear h
      rintro M6 _ ⟨r3, rfl, h⟩
      refine jw_st (st' := [.int r3]) rfl ?_
      refine jw_goto (pc := 67) (tgt := 76) dX11_highest_67 (by decide) ?_
      exact jw_iret (pc := 76) dX11_highest_76 rfl ⟨_, rfl, h⟩
  · replace h := h.2 c
    refine jw_aload_n (pc := 15) (j := 1) dX11_highest_15 rfl rfl ?_
    refine jw_bipush (pc := 16) (v := 8) dX11_highest_16 rfl ?_
    refine jw_callV (pc := 18) (m2 := mX11_refused) (As := [.int (8 : Int32)]) (st := []) dX11_highest_18 sC_0 (by decide) rfl rfl gm_X11_refused ml_X11_106 rfl (Nat.le_of_ble_eq_true rfl) (JC.mono h ?_)
    clear h
    rintro M7 _ ⟨r4, rfl, h⟩
    refine jw_st (st' := [.int r4]) rfl ?_
    exact jw_iret (pc := 21) dX11_highest_21 rfl ⟨_, rfl, h⟩
set_option maxRecDepth 20000 in
theorem b_X11_built {x : jX} {d : Nat} {M : jM} {P : jM → Int32 → Prop} {a1 : Int32} 
    (h : JC x jtbC mX11_isSeed d [.int a1] M (jZ fun M1 b1 => (b1 = true → (¬ (M1.1 40 0) = 0 → JC x jtbC mX2_work d [.ref (x.2.2.2 70), .ref (x.2.2.2 40), .ref (x.2.2.2 30), .ref (x.2.2.2 39), .int a1] M1 (jV fun M2 => ∀ M3, M3 = jrI M2 74 (upd (M2.1 74) 0 (M2.1 70 1)) → ∀ M4, M4 = jrI M3 74 (upd (M3.1 74) 1 (M3.1 70 2)) → ∀ M5, M5 = jrI M4 74 (upd (M4.1 74) 2 (M4.1 70 3)) → JC x jtbC mX11_answered d [.ref (x.2.2.2 0), .int (M5.1 70 0)] M5 (jI fun M6 r1 => P M6 r1))) ∧ ((M1.1 40 0) = 0 → JC x jtbC mX11_refused d [.ref (x.2.2.2 0), .int (8 : Int32)] M1 (jI fun M7 r2 => P M7 r2))) ∧ (b1 = false → JC x jtbC mX11_refused d [.ref (x.2.2.2 0), .int (5 : Int32)] M1 (jI fun M8 r3 => P M8 r3)))) :
    JC x jtbC mX11_built (d + 1) [.ref (x.2.2.2 0), .int a1] M (jI P) := by
  refine JC.of rfl (Nat.le_of_ble_eq_true rfl) ?_
  refine jw_ls (ls' := [(0, .ref (x.2.2.2 0)), (1, .int a1)]) rfl ?_
  refine jw_iload_n (pc := 0) (j := 1) dX11_built_0 rfl rfl ?_
  refine jw_callS (pc := 1) (m2 := mX11_isSeed) (As := [.int a1]) (st := []) dX11_built_1 gm_X11_isSeed ml_X11_379 rfl (Nat.le_of_ble_eq_true rfl) (JC.mono h ?_)
  clear h
  rintro M1 _ ⟨b1, rfl, h⟩
  refine jw_st (st' := [.int (jb b1)]) rfl ?_
  refine jw_if_ne (pc := 4) (tgt := 13) dX11_built_4 (by decide) (fun c => ?_) (fun c => ?_)
  · replace h := h.1 (jb_ne c)
    refine jw_aload_n (pc := 13) (j := 0) dX11_built_13 rfl rfl ?_
    refine jw_getR (pc := 14) (r := 29) dX11_built_14 sC_0 fl_X11_36 (by decide) rfl rfl ?_
    refine jw_getR (pc := 17) (r := 40) dX11_built_17 sC_29 fl_X11_173 (by decide) rfl rfl ?_
    refine jw_getI (pc := 20) dX11_built_20 sC_40 fl_X11_382 (by decide) rfl ?_
    refine jw_if_ne (pc := 23) (tgt := 33) dX11_built_23 (by decide) (fun c => ?_) (fun c => ?_)
    · replace h := h.1 c
      refine jw_aload_n (pc := 33) (j := 0) dX11_built_33 rfl rfl ?_
      refine jw_getR (pc := 34) (r := 70) dX11_built_34 sC_0 fl_X11_61 (by decide) rfl rfl ?_
      refine jw_aload_n (pc := 37) (j := 0) dX11_built_37 rfl rfl ?_
      refine jw_getR (pc := 38) (r := 29) dX11_built_38 sC_0 fl_X11_36 (by decide) rfl rfl ?_
      refine jw_getR (pc := 41) (r := 40) dX11_built_41 sC_29 fl_X11_173 (by decide) rfl rfl ?_
      refine jw_aload_n (pc := 44) (j := 0) dX11_built_44 rfl rfl ?_
      refine jw_getR (pc := 45) (r := 29) dX11_built_45 sC_0 fl_X11_36 (by decide) rfl rfl ?_
      refine jw_getR (pc := 48) (r := 30) dX11_built_48 sC_29 fl_X11_157 (by decide) rfl rfl ?_
      refine jw_aload_n (pc := 51) (j := 0) dX11_built_51 rfl rfl ?_
      refine jw_getR (pc := 52) (r := 29) dX11_built_52 sC_0 fl_X11_36 (by decide) rfl rfl ?_
      refine jw_getR (pc := 55) (r := 39) dX11_built_55 sC_29 fl_X11_230 (by decide) rfl rfl ?_
      refine jw_iload_n (pc := 58) (j := 1) dX11_built_58 rfl rfl ?_
      refine jw_callV (pc := 59) (m2 := mX2_work) (As := [.ref (x.2.2.2 40), .ref (x.2.2.2 30), .ref (x.2.2.2 39), .int a1]) (st := []) dX11_built_59 sC_70 (by decide) rfl rfl gm_X2_work ml_X11_383 rfl (Nat.le_of_ble_eq_true rfl) (JC.mono h ?_)
      clear h
      rintro M2 _ ⟨rfl, h⟩
      refine jw_st (st' := []) rfl ?_
      refine jw_aload_n (pc := 62) (j := 0) dX11_built_62 rfl rfl ?_
      refine jw_getR (pc := 63) (r := 74) dX11_built_63 sC_0 fl_X11_72 (by decide) rfl rfl ?_
      refine jw_iconst (pc := 66) (v := 0) dX11_built_66 rfl ?_
      refine jw_aload_n (pc := 67) (j := 0) dX11_built_67 rfl rfl ?_
      refine jw_getR (pc := 68) (r := 70) dX11_built_68 sC_0 fl_X11_61 (by decide) rfl rfl ?_
      refine jw_getI (pc := 71) dX11_built_71 sC_70 fl_X11_387 (by decide) rfl ?_
      refine jw_iast (pc := 74) (j := 0) dX11_built_74 sC_74 (by decide) rfl (by decide) ?_
      replace h := h _ rfl
      generalize jrI M2 74 (upd (M2.1 74) 0 (M2.1 70 1)) = M3 at h ⊢
      refine jw_aload_n (pc := 75) (j := 0) dX11_built_75 rfl rfl ?_
      refine jw_getR (pc := 76) (r := 74) dX11_built_76 sC_0 fl_X11_72 (by decide) rfl rfl ?_
      refine jw_iconst (pc := 79) (v := 1) dX11_built_79 rfl ?_
      refine jw_aload_n (pc := 80) (j := 0) dX11_built_80 rfl rfl ?_
      refine jw_getR (pc := 81) (r := 70) dX11_built_81 sC_0 fl_X11_61 (by decide) rfl rfl ?_
      refine jw_getI (pc := 84) dX11_built_84 sC_70 fl_X11_390 (by decide) rfl ?_
      refine jw_iast (pc := 87) (j := 1) dX11_built_87 sC_74 (by decide) rfl (by decide) ?_
      replace h := h _ rfl
      generalize jrI M3 74 (upd (M3.1 74) 1 (M3.1 70 2)) = M4 at h ⊢
      refine jw_aload_n (pc := 88) (j := 0) dX11_built_88 rfl rfl ?_
      refine jw_getR (pc := 89) (r := 74) dX11_built_89 sC_0 fl_X11_72 (by decide) rfl rfl ?_
      refine jw_iconst (pc := 92) (v := 2) dX11_built_92 rfl ?_
      refine jw_aload_n (pc := 93) (j := 0) dX11_built_93 rfl rfl ?_
      refine jw_getR (pc := 94) (r := 70) dX11_built_94 sC_0 fl_X11_61 (by decide) rfl rfl ?_
      refine jw_getI (pc := 97) dX11_built_97 sC_70 fl_X11_393 (by decide) rfl ?_
      refine jw_iast (pc := 100) (j := 2) dX11_built_100 sC_74 (by decide) rfl (by decide) ?_
      replace h := h _ rfl
      generalize jrI M4 74 (upd (M4.1 74) 2 (M4.1 70 3)) = M5 at h ⊢
      refine jw_aload_n (pc := 101) (j := 0) dX11_built_101 rfl rfl ?_
      refine jw_aload_n (pc := 102) (j := 0) dX11_built_102 rfl rfl ?_
      refine jw_getR (pc := 103) (r := 70) dX11_built_103 sC_0 fl_X11_61 (by decide) rfl rfl ?_
      refine jw_getI (pc := 106) dX11_built_106 sC_70 fl_X11_396 (by decide) rfl ?_
      refine jw_callV (pc := 109) (m2 := mX11_answered) (As := [.int (M5.1 70 0)]) (st := []) dX11_built_109 sC_0 (by decide) rfl rfl gm_X11_answered ml_X11_165 rfl (Nat.le_of_ble_eq_true rfl) (JC.mono h ?_)
      clear h
      rintro M6 _ ⟨r1, rfl, h⟩
      refine jw_st (st' := [.int r1]) rfl ?_
      exact jw_iret (pc := 112) dX11_built_112 rfl ⟨_, rfl, h⟩
    · replace h := h.2 c
      refine jw_aload_n (pc := 26) (j := 0) dX11_built_26 rfl rfl ?_
      refine jw_bipush (pc := 27) (v := 8) dX11_built_27 rfl ?_
      refine jw_callV (pc := 29) (m2 := mX11_refused) (As := [.int (8 : Int32)]) (st := []) dX11_built_29 sC_0 (by decide) rfl rfl gm_X11_refused ml_X11_106 rfl (Nat.le_of_ble_eq_true rfl) (JC.mono h ?_)
      clear h
      rintro M7 _ ⟨r2, rfl, h⟩
      refine jw_st (st' := [.int r2]) rfl ?_
      exact jw_iret (pc := 32) dX11_built_32 rfl ⟨_, rfl, h⟩
  · replace h := h.2 ((jb_0 _).mp c)
    refine jw_aload_n (pc := 7) (j := 0) dX11_built_7 rfl rfl ?_
    refine jw_iconst (pc := 8) (v := 5) dX11_built_8 rfl ?_
    refine jw_callV (pc := 9) (m2 := mX11_refused) (As := [.int (5 : Int32)]) (st := []) dX11_built_9 sC_0 (by decide) rfl rfl gm_X11_refused ml_X11_106 rfl (Nat.le_of_ble_eq_true rfl) (JC.mono h ?_)
    clear h
    rintro M8 _ ⟨r3, rfl, h⟩
    refine jw_st (st' := [.int r3]) rfl ?_
    exact jw_iret (pc := 12) dX11_built_12 rfl ⟨_, rfl, h⟩
set_option maxRecDepth 20000 in
theorem b_X11_building {x : jX} {d : Nat} {M : jM} {P : jM → Int32 → Prop} {a1 : Int32} 
    (h : (a1 < 0 → JC x jtbC mX11_refused d [.ref (x.2.2.2 0), .int (5 : Int32)] M (jI fun M1 r1 => P M1 r1)) ∧ (¬ a1 < 0 → (a1 ≤ (2 : Int32) → ∃ j1, j1 < 3 ∧ a1 = nI j1 ∧ ((¬ (M.1 74 j1) = (-1 : Int32) → JC x jtbC mX11_answered d [.ref (x.2.2.2 0), .int (M.1 74 j1)] M (jI fun M2 r2 => P M2 r2)) ∧ ((M.1 74 j1) = (-1 : Int32) → JC x jtbC mX11_refused d [.ref (x.2.2.2 0), .int (8 : Int32)] M (jI fun M3 r3 => P M3 r3)))) ∧ (¬ a1 ≤ (2 : Int32) → JC x jtbC mX11_refused d [.ref (x.2.2.2 0), .int (5 : Int32)] M (jI fun M4 r4 => P M4 r4)))) :
    JC x jtbC mX11_building (d + 1) [.ref (x.2.2.2 0), .int a1] M (jI P) := by
  refine JC.of rfl (Nat.le_of_ble_eq_true rfl) ?_
  refine jw_ls (ls' := [(0, .ref (x.2.2.2 0)), (1, .int a1)]) rfl ?_
  refine jw_iload_n (pc := 0) (j := 1) dX11_building_0 rfl rfl ?_
  refine jw_if_lt (pc := 1) (tgt := 9) dX11_building_1 (by decide) (fun c => ?_) (fun c => ?_)
  · replace h := h.1 c
    refine jw_aload_n (pc := 9) (j := 0) dX11_building_9 rfl rfl ?_
    refine jw_iconst (pc := 10) (v := 5) dX11_building_10 rfl ?_
    refine jw_callV (pc := 11) (m2 := mX11_refused) (As := [.int (5 : Int32)]) (st := []) dX11_building_11 sC_0 (by decide) rfl rfl gm_X11_refused ml_X11_106 rfl (Nat.le_of_ble_eq_true rfl) (JC.mono h ?_)
    clear h
    rintro M1 _ ⟨r1, rfl, h⟩
    refine jw_st (st' := [.int r1]) rfl ?_
    exact jw_iret (pc := 14) dX11_building_14 rfl ⟨_, rfl, h⟩
  · replace h := h.2 c
    refine jw_iload_n (pc := 4) (j := 1) dX11_building_4 rfl rfl ?_
    refine jw_iconst (pc := 5) (v := 2) dX11_building_5 rfl ?_
    refine jw_icmp_le (pc := 6) (tgt := 15) dX11_building_6 (by decide) (fun c => ?_) (fun c => ?_)
    · replace h := h.1 c
      refine jw_aload_n (pc := 15) (j := 0) dX11_building_15 rfl rfl ?_
      refine jw_getR (pc := 16) (r := 74) dX11_building_16 sC_0 fl_X11_72 (by decide) rfl rfl ?_
      refine jw_iload_n (pc := 19) (j := 1) dX11_building_19 rfl rfl ?_
      obtain ⟨j1, hj1, ej1, h⟩ := h
      refine jw_iald (pc := 20) (j := j1) dX11_building_20 sC_74 hj1 ej1 (by decide) ?_
      refine jw_istore_n (pc := 21) (ls' := [(2, .int (M.1 74 j1)), (0, .ref (x.2.2.2 0)), (1, .int a1)]) dX11_building_21 rfl (by decide) rfl ?_
      refine jw_iload_n (pc := 22) (j := 0) dX11_building_22 rfl rfl ?_
      refine jw_iconst (pc := 23) (v := (-1)) dX11_building_23 rfl ?_
      refine jw_icmp_ne (pc := 24) (tgt := 36) dX11_building_24 (by decide) (fun c => ?_) (fun c => ?_)
      · replace h := h.1 c
        refine jw_aload_n (pc := 36) (j := 1) dX11_building_36 rfl rfl ?_
        refine jw_iload_n (pc := 37) (j := 0) dX11_building_37 rfl rfl ?_
        refine jw_callV (pc := 38) (m2 := mX11_answered) (As := [.int (M.1 74 j1)]) (st := []) dX11_building_38 sC_0 (by decide) rfl rfl gm_X11_answered ml_X11_165 rfl (Nat.le_of_ble_eq_true rfl) (JC.mono h ?_)
        clear h
        rintro M2 _ ⟨r2, rfl, h⟩
        refine jw_st (st' := [.int r2]) rfl ?_
        exact jw_iret (pc := 41) dX11_building_41 rfl ⟨_, rfl, h⟩
      · replace h := h.2 c
        refine jw_aload_n (pc := 27) (j := 1) dX11_building_27 rfl rfl ?_
        refine jw_bipush (pc := 28) (v := 8) dX11_building_28 rfl ?_
        refine jw_callV (pc := 30) (m2 := mX11_refused) (As := [.int (8 : Int32)]) (st := []) dX11_building_30 sC_0 (by decide) rfl rfl gm_X11_refused ml_X11_106 rfl (Nat.le_of_ble_eq_true rfl) (JC.mono h ?_)
        clear h
        rintro M3 _ ⟨r3, rfl, h⟩
        refine jw_st (st' := [.int r3]) rfl ?_
        refine jw_goto (pc := 33) (tgt := 41) dX11_building_33 (by decide) ?_
        exact jw_iret (pc := 41) dX11_building_41 rfl ⟨_, rfl, h⟩
    · replace h := h.2 c
      refine jw_aload_n (pc := 9) (j := 0) dX11_building_9 rfl rfl ?_
      refine jw_iconst (pc := 10) (v := 5) dX11_building_10 rfl ?_
      refine jw_callV (pc := 11) (m2 := mX11_refused) (As := [.int (5 : Int32)]) (st := []) dX11_building_11 sC_0 (by decide) rfl rfl gm_X11_refused ml_X11_106 rfl (Nat.le_of_ble_eq_true rfl) (JC.mono h ?_)
      clear h
      rintro M4 _ ⟨r4, rfl, h⟩
      refine jw_st (st' := [.int r4]) rfl ?_
      exact jw_iret (pc := 14) dX11_building_14 rfl ⟨_, rfl, h⟩
set_option maxRecDepth 20000 in
theorem b_X11_tally {x : jX} {d : Nat} {M : jM} {P : jM → Int32 → Prop} {a1 : Int32} {a2 : Int32} 
    (h : JC x jtbC mX11_isSeed d [.int a1] M (jZ fun M1 b1 => (b1 = false → JC x jtbC mX11_refused d [.ref (x.2.2.2 0), .int (5 : Int32)] M1 (jI fun M2 r1 => P M2 r1)) ∧ (b1 = true → (a2 < (1 : Int32) → JC x jtbC mX11_refused d [.ref (x.2.2.2 0), .int (5 : Int32)] M1 (jI fun M3 r2 => P M3 r2)) ∧ (¬ a2 < (1 : Int32) → ((30 : Int32) < a2 → JC x jtbC mX11_refused d [.ref (x.2.2.2 0), .int (5 : Int32)] M1 (jI fun M4 r3 => P M4 r3)) ∧ (¬ (30 : Int32) < a2 → JC x jtbC mX11_isSeed d [.int ((a1 + a2) - (1 : Int32))] M1 (jZ fun M5 b2 => (b2 = true → (¬ (M5.1 40 0) = 0 → JW x jtbC mX11_tally (d + 1) (jI P) 60 [(0, .ref (x.2.2.2 0)), (1, .int a1), (2, .int a2), (3, .int (0 : Int32)), (4, .int (0 : Int32))] [] M5) ∧ ((M5.1 40 0) = 0 → JC x jtbC mX11_refused d [.ref (x.2.2.2 0), .int (8 : Int32)] M5 (jI fun M6 r4 => P M6 r4))) ∧ (b2 = false → JC x jtbC mX11_refused d [.ref (x.2.2.2 0), .int (5 : Int32)] M5 (jI fun M7 r5 => P M7 r5)))))))) :
    JC x jtbC mX11_tally (d + 1) [.ref (x.2.2.2 0), .int a1, .int a2] M (jI P) := by
  refine JC.of rfl (Nat.le_of_ble_eq_true rfl) ?_
  refine jw_ls (ls' := [(0, .ref (x.2.2.2 0)), (1, .int a1), (2, .int a2)]) rfl ?_
  refine jw_iload_n (pc := 0) (j := 1) dX11_tally_0 rfl rfl ?_
  refine jw_callS (pc := 1) (m2 := mX11_isSeed) (As := [.int a1]) (st := []) dX11_tally_1 gm_X11_isSeed ml_X11_379 rfl (Nat.le_of_ble_eq_true rfl) (JC.mono h ?_)
  clear h
  rintro M1 _ ⟨b1, rfl, h⟩
  refine jw_st (st' := [.int (jb b1)]) rfl ?_
  refine jw_if_eq (pc := 4) (tgt := 29) dX11_tally_4 (by decide) (fun c => ?_) (fun c => ?_)
  · replace h := h.1 ((jb_0 _).mp c)
    refine jw_aload_n (pc := 29) (j := 0) dX11_tally_29 rfl rfl ?_
    refine jw_iconst (pc := 30) (v := 5) dX11_tally_30 rfl ?_
    refine jw_callV (pc := 31) (m2 := mX11_refused) (As := [.int (5 : Int32)]) (st := []) dX11_tally_31 sC_0 (by decide) rfl rfl gm_X11_refused ml_X11_106 rfl (Nat.le_of_ble_eq_true rfl) (JC.mono h ?_)
    clear h
    rintro M2 _ ⟨r1, rfl, h⟩
    refine jw_st (st' := [.int r1]) rfl ?_
    exact jw_iret (pc := 34) dX11_tally_34 rfl ⟨_, rfl, h⟩
  · replace h := h.2 (jb_ne c)
    refine jw_iload_n (pc := 7) (j := 2) dX11_tally_7 rfl rfl ?_
    refine jw_iconst (pc := 8) (v := 1) dX11_tally_8 rfl ?_
    refine jw_icmp_lt (pc := 9) (tgt := 29) dX11_tally_9 (by decide) (fun c => ?_) (fun c => ?_)
    · replace h := h.1 c
      refine jw_aload_n (pc := 29) (j := 0) dX11_tally_29 rfl rfl ?_
      refine jw_iconst (pc := 30) (v := 5) dX11_tally_30 rfl ?_
      refine jw_callV (pc := 31) (m2 := mX11_refused) (As := [.int (5 : Int32)]) (st := []) dX11_tally_31 sC_0 (by decide) rfl rfl gm_X11_refused ml_X11_106 rfl (Nat.le_of_ble_eq_true rfl) (JC.mono h ?_)
      clear h
      rintro M3 _ ⟨r2, rfl, h⟩
      refine jw_st (st' := [.int r2]) rfl ?_
      exact jw_iret (pc := 34) dX11_tally_34 rfl ⟨_, rfl, h⟩
    · replace h := h.2 c
      refine jw_iload_n (pc := 12) (j := 2) dX11_tally_12 rfl rfl ?_
      refine jw_bipush (pc := 13) (v := 30) dX11_tally_13 rfl ?_
      refine jw_icmp_gt (pc := 15) (tgt := 29) dX11_tally_15 (by decide) (fun c => ?_) (fun c => ?_)
      · replace h := h.1 c
        refine jw_aload_n (pc := 29) (j := 0) dX11_tally_29 rfl rfl ?_
        refine jw_iconst (pc := 30) (v := 5) dX11_tally_30 rfl ?_
        refine jw_callV (pc := 31) (m2 := mX11_refused) (As := [.int (5 : Int32)]) (st := []) dX11_tally_31 sC_0 (by decide) rfl rfl gm_X11_refused ml_X11_106 rfl (Nat.le_of_ble_eq_true rfl) (JC.mono h ?_)
        clear h
        rintro M4 _ ⟨r3, rfl, h⟩
        refine jw_st (st' := [.int r3]) rfl ?_
        exact jw_iret (pc := 34) dX11_tally_34 rfl ⟨_, rfl, h⟩
      · replace h := h.2 c
        refine jw_iload_n (pc := 18) (j := 1) dX11_tally_18 rfl rfl ?_
        refine jw_iload_n (pc := 19) (j := 2) dX11_tally_19 rfl rfl ?_
        refine jw_iadd (pc := 20) dX11_tally_20 ?_
        refine jw_iconst (pc := 21) (v := 1) dX11_tally_21 rfl ?_
        refine jw_isub (pc := 22) dX11_tally_22 ?_
        refine jw_callS (pc := 23) (m2 := mX11_isSeed) (As := [.int ((a1 + a2) - (1 : Int32))]) (st := []) dX11_tally_23 gm_X11_isSeed ml_X11_379 rfl (Nat.le_of_ble_eq_true rfl) (JC.mono h ?_)
        clear h
        rintro M5 _ ⟨b2, rfl, h⟩
        refine jw_st (st' := [.int (jb b2)]) rfl ?_
        refine jw_if_ne (pc := 26) (tgt := 35) dX11_tally_26 (by decide) (fun c => ?_) (fun c => ?_)
        · replace h := h.1 (jb_ne c)
          refine jw_aload_n (pc := 35) (j := 0) dX11_tally_35 rfl rfl ?_
          refine jw_getR (pc := 36) (r := 29) dX11_tally_36 sC_0 fl_X11_36 (by decide) rfl rfl ?_
          refine jw_getR (pc := 39) (r := 40) dX11_tally_39 sC_29 fl_X11_173 (by decide) rfl rfl ?_
          refine jw_getI (pc := 42) dX11_tally_42 sC_40 fl_X11_382 (by decide) rfl ?_
          refine jw_if_ne (pc := 45) (tgt := 55) dX11_tally_45 (by decide) (fun c => ?_) (fun c => ?_)
          · replace h := h.1 c
            refine jw_iconst (pc := 55) (v := 0) dX11_tally_55 rfl ?_
            refine jw_istore_n (pc := 56) (ls' := [(3, .int (0 : Int32)), (0, .ref (x.2.2.2 0)), (1, .int a1), (2, .int a2)]) dX11_tally_56 rfl (by decide) rfl ?_
            refine jw_iconst (pc := 57) (v := 0) dX11_tally_57 rfl ?_
            refine jw_istore (pc := 58) (ls' := [(4, .int (0 : Int32)), (3, .int (0 : Int32)), (0, .ref (x.2.2.2 0)), (1, .int a1), (2, .int a2)]) dX11_tally_58 (by decide) rfl ?_
            exact jw_sub [2, 3, 4, 1, 0] rfl h
          · replace h := h.2 c
            refine jw_aload_n (pc := 48) (j := 0) dX11_tally_48 rfl rfl ?_
            refine jw_bipush (pc := 49) (v := 8) dX11_tally_49 rfl ?_
            refine jw_callV (pc := 51) (m2 := mX11_refused) (As := [.int (8 : Int32)]) (st := []) dX11_tally_51 sC_0 (by decide) rfl rfl gm_X11_refused ml_X11_106 rfl (Nat.le_of_ble_eq_true rfl) (JC.mono h ?_)
            clear h
            rintro M6 _ ⟨r4, rfl, h⟩
            refine jw_st (st' := [.int r4]) rfl ?_
            exact jw_iret (pc := 54) dX11_tally_54 rfl ⟨_, rfl, h⟩
        · replace h := h.2 ((jb_0 _).mp c)
          refine jw_aload_n (pc := 29) (j := 0) dX11_tally_29 rfl rfl ?_
          refine jw_iconst (pc := 30) (v := 5) dX11_tally_30 rfl ?_
          refine jw_callV (pc := 31) (m2 := mX11_refused) (As := [.int (5 : Int32)]) (st := []) dX11_tally_31 sC_0 (by decide) rfl rfl gm_X11_refused ml_X11_106 rfl (Nat.le_of_ble_eq_true rfl) (JC.mono h ?_)
          clear h
          rintro M7 _ ⟨r5, rfl, h⟩
          refine jw_st (st' := [.int r5]) rfl ?_
          exact jw_iret (pc := 34) dX11_tally_34 rfl ⟨_, rfl, h⟩
set_option maxRecDepth 20000 in
theorem b_X11_tally_60 {x : jX} {d : Nat} {M : jM} {P : jM → Int32 → Prop} {l1 : Int32} {l2 : Int32} {l3 : Int32} {l4 : Int32} 
    (h : (l2 ≤ l4 → JC x jtbC mX11_answered d [.ref (x.2.2.2 0), .int l3] M (jI fun M1 r1 => P M1 r1)) ∧ (¬ l2 ≤ l4 → 0 + 25 ≤ 25 ∧ 0 + 25 ≤ 25 ∧ (∀ M2, M2 = jrI M 73 (va_cpy (M.1 39) (M.1 73) 0 0 25) → JC x jtbC mX2_work d [.ref (x.2.2.2 70), .ref (x.2.2.2 40), .ref (x.2.2.2 30), .ref (x.2.2.2 73), .int (l1 + l4)] M2 (jV fun M3 => JC x jtbC mX5_firstUnlikeVillage d [.ref (x.2.2.2 30), .ref (x.2.2.2 73)] M3 (jI fun M4 r2 => (¬ r2 = (-1 : Int32) → JW x jtbC mX11_tally (d + 1) (jI P) 60 [(0, .ref (x.2.2.2 0)), (1, .int l1), (2, .int l2), (3, .int (l3 + (0 : Int32))), (4, .int (l4 + 1))] [] M4) ∧ (r2 = (-1 : Int32) → JW x jtbC mX11_tally (d + 1) (jI P) 60 [(0, .ref (x.2.2.2 0)), (1, .int l1), (2, .int l2), (3, .int (l3 + (1 : Int32))), (4, .int (l4 + 1))] [] M4)))))) :
    JW x jtbC mX11_tally (d + 1) (jI P) 60 [(0, .ref (x.2.2.2 0)), (1, .int l1), (2, .int l2), (3, .int l3), (4, .int l4)] [] M := by
  refine jw_iload (pc := 60) (j := 4) dX11_tally_60 rfl ?_
  refine jw_iload_n (pc := 62) (j := 2) dX11_tally_62 rfl rfl ?_
  refine jw_icmp_ge (pc := 63) (tgt := 145) dX11_tally_63 (by decide) (fun c => ?_) (fun c => ?_)
  · replace h := h.1 c
    refine jw_aload_n (pc := 145) (j := 0) dX11_tally_145 rfl rfl ?_
    refine jw_iload_n (pc := 146) (j := 3) dX11_tally_146 rfl rfl ?_
    refine jw_callV (pc := 147) (m2 := mX11_answered) (As := [.int l3]) (st := []) dX11_tally_147 sC_0 (by decide) rfl rfl gm_X11_answered ml_X11_165 rfl (Nat.le_of_ble_eq_true rfl) (JC.mono h ?_)
    clear h
    rintro M1 _ ⟨r1, rfl, h⟩
    refine jw_st (st' := [.int r1]) rfl ?_
    exact jw_iret (pc := 150) dX11_tally_150 rfl ⟨_, rfl, h⟩
  · replace h := h.2 c
    refine jw_aload_n (pc := 66) (j := 0) dX11_tally_66 rfl rfl ?_
    refine jw_getR (pc := 67) (r := 29) dX11_tally_67 sC_0 fl_X11_36 (by decide) rfl rfl ?_
    refine jw_getR (pc := 70) (r := 39) dX11_tally_70 sC_29 fl_X11_230 (by decide) rfl rfl ?_
    refine jw_iconst (pc := 73) (v := 0) dX11_tally_73 rfl ?_
    refine jw_aload_n (pc := 74) (j := 0) dX11_tally_74 rfl rfl ?_
    refine jw_getR (pc := 75) (r := 73) dX11_tally_75 sC_0 fl_X11_69 (by decide) rfl rfl ?_
    refine jw_iconst (pc := 78) (v := 0) dX11_tally_78 rfl ?_
    refine jw_bipush (pc := 79) (v := 25) dX11_tally_79 rfl ?_
    obtain ⟨q1, q2, h⟩ := h
    refine jw_copyI (pc := 81) (a := 0) (b := 0) (k := 25) (st := []) dX11_tally_81 ac_X11_124 ac_n ac_s ac_i sC_39 sC_73 rfl rfl rfl q1 q2 (by decide) (by decide) (jcw (Nat.le_of_ble_eq_true rfl)) ?_
    replace h := h _ rfl
    generalize jrI M 73 (va_cpy (M.1 39) (M.1 73) 0 0 25) = M2 at h ⊢
    refine jw_aload_n (pc := 84) (j := 0) dX11_tally_84 rfl rfl ?_
    refine jw_getR (pc := 85) (r := 70) dX11_tally_85 sC_0 fl_X11_61 (by decide) rfl rfl ?_
    refine jw_aload_n (pc := 88) (j := 0) dX11_tally_88 rfl rfl ?_
    refine jw_getR (pc := 89) (r := 29) dX11_tally_89 sC_0 fl_X11_36 (by decide) rfl rfl ?_
    refine jw_getR (pc := 92) (r := 40) dX11_tally_92 sC_29 fl_X11_173 (by decide) rfl rfl ?_
    refine jw_aload_n (pc := 95) (j := 0) dX11_tally_95 rfl rfl ?_
    refine jw_getR (pc := 96) (r := 29) dX11_tally_96 sC_0 fl_X11_36 (by decide) rfl rfl ?_
    refine jw_getR (pc := 99) (r := 30) dX11_tally_99 sC_29 fl_X11_157 (by decide) rfl rfl ?_
    refine jw_aload_n (pc := 102) (j := 0) dX11_tally_102 rfl rfl ?_
    refine jw_getR (pc := 103) (r := 73) dX11_tally_103 sC_0 fl_X11_69 (by decide) rfl rfl ?_
    refine jw_iload_n (pc := 106) (j := 1) dX11_tally_106 rfl rfl ?_
    refine jw_iload (pc := 107) (j := 4) dX11_tally_107 rfl ?_
    refine jw_iadd (pc := 109) dX11_tally_109 ?_
    refine jw_callV (pc := 110) (m2 := mX2_work) (As := [.ref (x.2.2.2 40), .ref (x.2.2.2 30), .ref (x.2.2.2 73), .int (l1 + l4)]) (st := []) dX11_tally_110 sC_70 (by decide) rfl rfl gm_X2_work ml_X11_383 rfl (Nat.le_of_ble_eq_true rfl) (JC.mono h ?_)
    clear h
    rintro M3 _ ⟨rfl, h⟩
    refine jw_st (st' := []) rfl ?_
    refine jw_iload_n (pc := 113) (j := 3) dX11_tally_113 rfl rfl ?_
    refine jw_aload_n (pc := 114) (j := 0) dX11_tally_114 rfl rfl ?_
    refine jw_getR (pc := 115) (r := 29) dX11_tally_115 sC_0 fl_X11_36 (by decide) rfl rfl ?_
    refine jw_getR (pc := 118) (r := 30) dX11_tally_118 sC_29 fl_X11_157 (by decide) rfl rfl ?_
    refine jw_aload_n (pc := 121) (j := 0) dX11_tally_121 rfl rfl ?_
    refine jw_getR (pc := 122) (r := 73) dX11_tally_122 sC_0 fl_X11_69 (by decide) rfl rfl ?_
    refine jw_callV (pc := 125) (m2 := mX5_firstUnlikeVillage) (As := [.ref (x.2.2.2 73)]) (st := [.int l3]) dX11_tally_125 sC_30 (by decide) rfl rfl gm_X5_firstUnlikeVillage ml_X11_248 rfl (Nat.le_of_ble_eq_true rfl) (JC.mono h ?_)
    clear h
    rintro M4 _ ⟨r2, rfl, h⟩
    refine jw_st (st' := [.int r2, .int l3]) rfl ?_
    refine jw_iconst (pc := 128) (v := (-1)) dX11_tally_128 rfl ?_
    refine jw_icmp_ne (pc := 129) (tgt := 136) dX11_tally_129 (by decide) (fun c => ?_) (fun c => ?_)
    · replace h := h.1 c
      refine jw_iconst (pc := 136) (v := 0) dX11_tally_136 rfl ?_
      refine jw_iadd (pc := 137) dX11_tally_137 ?_
      refine jw_istore_n (pc := 138) (ls' := [(3, .int (l3 + (0 : Int32))), (0, .ref (x.2.2.2 0)), (1, .int l1), (2, .int l2), (4, .int l4)]) dX11_tally_138 rfl (by decide) rfl ?_
      refine jw_iinc (pc := 139) (j := 4) (u := l4 + 1) (ls' := [(4, .int (l4 + 1)), (3, .int (l3 + (0 : Int32))), (0, .ref (x.2.2.2 0)), (1, .int l1), (2, .int l2)]) dX11_tally_139 rfl rfl (by decide) rfl ?_
      refine jw_goto (pc := 142) (tgt := 60) dX11_tally_142 (by decide) ?_
      exact jw_sub [2, 3, 4, 1, 0] rfl h
    · replace h := h.2 c
      refine jw_iconst (pc := 132) (v := 1) dX11_tally_132 rfl ?_
      refine jw_goto (pc := 133) (tgt := 137) dX11_tally_133 (by decide) ?_
      refine jw_iadd (pc := 137) dX11_tally_137 ?_
      refine jw_istore_n (pc := 138) (ls' := [(3, .int (l3 + (1 : Int32))), (0, .ref (x.2.2.2 0)), (1, .int l1), (2, .int l2), (4, .int l4)]) dX11_tally_138 rfl (by decide) rfl ?_
      refine jw_iinc (pc := 139) (j := 4) (u := l4 + 1) (ls' := [(4, .int (l4 + 1)), (3, .int (l3 + (1 : Int32))), (0, .ref (x.2.2.2 0)), (1, .int l1), (2, .int l2)]) dX11_tally_139 rfl rfl (by decide) rfl ?_
      refine jw_goto (pc := 142) (tgt := 60) dX11_tally_142 (by decide) ?_
      exact jw_sub [2, 3, 4, 1, 0] rfl h
set_option maxRecDepth 20000 in
theorem b_X11_mark {x : jX} {d : Nat} {M : jM} {P : jM → Int32 → Prop}  
    (h : ((M.1 0 15) < (3 : Int32) → ∃ j1, j1 < 3 ∧ M.1 0 15 = nI j1 ∧ (JC x jtbC mX10_copyFrom d [.ref (x.2.2.2 (85 + 19 * j1)), .ref (x.2.2.2 29)] M (jV fun M1 => ∀ M2, M2 = jrI M1 0 (upd (M1.1 0) 15 ((M1.1 0 15) + (1 : Int32))) → JC x jtbC mX11_answered d [.ref (x.2.2.2 0), .int (M2.1 0 15)] M2 (jI fun M3 r1 => P M3 r1)))) ∧ (¬ (M.1 0 15) < (3 : Int32) → JC x jtbC mX11_refused d [.ref (x.2.2.2 0), .int (7 : Int32)] M (jI fun M4 r2 => P M4 r2))) :
    JC x jtbC mX11_mark (d + 1) [.ref (x.2.2.2 0)] M (jI P) := by
  refine JC.of rfl (Nat.le_of_ble_eq_true rfl) ?_
  refine jw_ls (ls' := [(0, .ref (x.2.2.2 0))]) rfl ?_
  refine jw_aload_n (pc := 0) (j := 0) dX11_mark_0 rfl rfl ?_
  refine jw_getI (pc := 1) dX11_mark_1 sC_0 fl_X11_397 (by decide) rfl ?_
  refine jw_iconst (pc := 4) (v := 3) dX11_mark_4 rfl ?_
  refine jw_icmp_lt (pc := 5) (tgt := 15) dX11_mark_5 (by decide) (fun c => ?_) (fun c => ?_)
  · replace h := h.1 c
    refine jw_aload_n (pc := 15) (j := 0) dX11_mark_15 rfl rfl ?_
    refine jw_getR (pc := 16) (r := 48) dX11_mark_16 sC_0 fl_X11_40 (by decide) rfl rfl ?_
    refine jw_aload_n (pc := 19) (j := 0) dX11_mark_19 rfl rfl ?_
    refine jw_getI (pc := 20) dX11_mark_20 sC_0 fl_X11_397 (by decide) rfl ?_
    obtain ⟨j1, hj1, ej1, h⟩ := h
    refine jw_aald25 (pc := 23) (j := j1) (r := 85 + 19 * j1) dX11_mark_23 sC_48 hj1 ej1 (by decide) (by simp [jel]) ?_
    refine jw_aload_n (pc := 24) (j := 0) dX11_mark_24 rfl rfl ?_
    refine jw_getR (pc := 25) (r := 29) dX11_mark_25 sC_0 fl_X11_36 (by decide) rfl rfl ?_
    refine jw_callV (pc := 28) (m2 := mX10_copyFrom) (As := [.ref (x.2.2.2 29)]) (st := []) dX11_mark_28 (at10 hj1).1 (by decide) rfl rfl gm_X10_copyFrom ml_X11_400 rfl (Nat.le_of_ble_eq_true rfl) (JC.mono h ?_)
    clear h
    rintro M1 _ ⟨rfl, h⟩
    refine jw_st (st' := []) rfl ?_
    refine jw_aload_n (pc := 31) (j := 0) dX11_mark_31 rfl rfl ?_
    refine jw_dup (pc := 32) dX11_mark_32 rfl ?_
    refine jw_getI (pc := 33) dX11_mark_33 sC_0 fl_X11_397 (by decide) rfl ?_
    refine jw_iconst (pc := 36) (v := 1) dX11_mark_36 rfl ?_
    refine jw_iadd (pc := 37) dX11_mark_37 ?_
    refine jw_putI (pc := 38) dX11_mark_38 sC_0 fl_X11_397 fw_11_15 (by decide) rfl ?_
    replace h := h _ rfl
    generalize jrI M1 0 (upd (M1.1 0) 15 ((M1.1 0 15) + (1 : Int32))) = M2 at h ⊢
    refine jw_aload_n (pc := 41) (j := 0) dX11_mark_41 rfl rfl ?_
    refine jw_aload_n (pc := 42) (j := 0) dX11_mark_42 rfl rfl ?_
    refine jw_getI (pc := 43) dX11_mark_43 sC_0 fl_X11_397 (by decide) rfl ?_
    refine jw_callV (pc := 46) (m2 := mX11_answered) (As := [.int (M2.1 0 15)]) (st := []) dX11_mark_46 sC_0 (by decide) rfl rfl gm_X11_answered ml_X11_165 rfl (Nat.le_of_ble_eq_true rfl) (JC.mono h ?_)
    clear h
    rintro M3 _ ⟨r1, rfl, h⟩
    refine jw_st (st' := [.int r1]) rfl ?_
    exact jw_iret (pc := 49) dX11_mark_49 rfl ⟨_, rfl, h⟩
  · replace h := h.2 c
    refine jw_aload_n (pc := 8) (j := 0) dX11_mark_8 rfl rfl ?_
    refine jw_bipush (pc := 9) (v := 7) dX11_mark_9 rfl ?_
    refine jw_callV (pc := 11) (m2 := mX11_refused) (As := [.int (7 : Int32)]) (st := []) dX11_mark_11 sC_0 (by decide) rfl rfl gm_X11_refused ml_X11_106 rfl (Nat.le_of_ble_eq_true rfl) (JC.mono h ?_)
    clear h
    rintro M4 _ ⟨r2, rfl, h⟩
    refine jw_st (st' := [.int r2]) rfl ?_
    exact jw_iret (pc := 14) dX11_mark_14 rfl ⟨_, rfl, h⟩
set_option maxRecDepth 20000 in
theorem b_X11_back {x : jX} {d : Nat} {M : jM} {P : jM → Int32 → Prop}  
    (h : (0 < (M.1 0 15) → ∀ M1, M1 = jrI M 0 (upd (M.1 0) 15 ((M.1 0 15) - (1 : Int32))) → ∃ j1, j1 < 3 ∧ M1.1 0 15 = nI j1 ∧ (JC x jtbC mX10_copyFrom d [.ref (x.2.2.2 29), .ref (x.2.2.2 (85 + 19 * j1))] M1 (jV fun M2 => JC x jtbC mX11_answered d [.ref (x.2.2.2 0), .int (M2.1 0 15)] M2 (jI fun M3 r1 => P M3 r1)))) ∧ (¬ 0 < (M.1 0 15) → JC x jtbC mX11_refused d [.ref (x.2.2.2 0), .int (8 : Int32)] M (jI fun M4 r2 => P M4 r2))) :
    JC x jtbC mX11_back (d + 1) [.ref (x.2.2.2 0)] M (jI P) := by
  refine JC.of rfl (Nat.le_of_ble_eq_true rfl) ?_
  refine jw_ls (ls' := [(0, .ref (x.2.2.2 0))]) rfl ?_
  refine jw_aload_n (pc := 0) (j := 0) dX11_back_0 rfl rfl ?_
  refine jw_getI (pc := 1) dX11_back_1 sC_0 fl_X11_397 (by decide) rfl ?_
  refine jw_if_gt (pc := 4) (tgt := 14) dX11_back_4 (by decide) (fun c => ?_) (fun c => ?_)
  · replace h := h.1 c
    refine jw_aload_n (pc := 14) (j := 0) dX11_back_14 rfl rfl ?_
    refine jw_dup (pc := 15) dX11_back_15 rfl ?_
    refine jw_getI (pc := 16) dX11_back_16 sC_0 fl_X11_397 (by decide) rfl ?_
    refine jw_iconst (pc := 19) (v := 1) dX11_back_19 rfl ?_
    refine jw_isub (pc := 20) dX11_back_20 ?_
    refine jw_putI (pc := 21) dX11_back_21 sC_0 fl_X11_397 fw_11_15 (by decide) rfl ?_
    replace h := h _ rfl
    generalize jrI M 0 (upd (M.1 0) 15 ((M.1 0 15) - (1 : Int32))) = M1 at h ⊢
    refine jw_aload_n (pc := 24) (j := 0) dX11_back_24 rfl rfl ?_
    refine jw_getR (pc := 25) (r := 29) dX11_back_25 sC_0 fl_X11_36 (by decide) rfl rfl ?_
    refine jw_aload_n (pc := 28) (j := 0) dX11_back_28 rfl rfl ?_
    refine jw_getR (pc := 29) (r := 48) dX11_back_29 sC_0 fl_X11_40 (by decide) rfl rfl ?_
    refine jw_aload_n (pc := 32) (j := 0) dX11_back_32 rfl rfl ?_
    refine jw_getI (pc := 33) dX11_back_33 sC_0 fl_X11_397 (by decide) rfl ?_
    obtain ⟨j1, hj1, ej1, h⟩ := h
    refine jw_aald25 (pc := 36) (j := j1) (r := 85 + 19 * j1) dX11_back_36 sC_48 hj1 ej1 (by decide) (by simp [jel]) ?_
    refine jw_callV (pc := 37) (m2 := mX10_copyFrom) (As := [.ref (x.2.2.2 (85 + 19 * j1))]) (st := []) dX11_back_37 sC_29 (by decide) rfl rfl gm_X10_copyFrom ml_X11_400 rfl (Nat.le_of_ble_eq_true rfl) (JC.mono h ?_)
    clear h
    rintro M2 _ ⟨rfl, h⟩
    refine jw_st (st' := []) rfl ?_
    refine jw_aload_n (pc := 40) (j := 0) dX11_back_40 rfl rfl ?_
    refine jw_aload_n (pc := 41) (j := 0) dX11_back_41 rfl rfl ?_
    refine jw_getI (pc := 42) dX11_back_42 sC_0 fl_X11_397 (by decide) rfl ?_
    refine jw_callV (pc := 45) (m2 := mX11_answered) (As := [.int (M2.1 0 15)]) (st := []) dX11_back_45 sC_0 (by decide) rfl rfl gm_X11_answered ml_X11_165 rfl (Nat.le_of_ble_eq_true rfl) (JC.mono h ?_)
    clear h
    rintro M3 _ ⟨r1, rfl, h⟩
    refine jw_st (st' := [.int r1]) rfl ?_
    exact jw_iret (pc := 48) dX11_back_48 rfl ⟨_, rfl, h⟩
  · replace h := h.2 c
    refine jw_aload_n (pc := 7) (j := 0) dX11_back_7 rfl rfl ?_
    refine jw_bipush (pc := 8) (v := 8) dX11_back_8 rfl ?_
    refine jw_callV (pc := 10) (m2 := mX11_refused) (As := [.int (8 : Int32)]) (st := []) dX11_back_10 sC_0 (by decide) rfl rfl gm_X11_refused ml_X11_106 rfl (Nat.le_of_ble_eq_true rfl) (JC.mono h ?_)
    clear h
    rintro M4 _ ⟨r2, rfl, h⟩
    refine jw_st (st' := [.int r2]) rfl ?_
    exact jw_iret (pc := 13) dX11_back_13 rfl ⟨_, rfl, h⟩
set_option maxRecDepth 20000 in
theorem b_X11_answered {x : jX} {d : Nat} {M : jM} {P : jM → Int32 → Prop} {a1 : Int32} 
    (h : ∀ M1, M1 = jrI M 0 (upd (M.1 0) 16 (0 : Int32)) → P M1 a1) :
    JC x jtbC mX11_answered d [.ref (x.2.2.2 0), .int a1] M (jI P) := by
  refine JC.of rfl (Nat.le_of_ble_eq_true rfl) ?_
  refine jw_ls (ls' := [(0, .ref (x.2.2.2 0)), (1, .int a1)]) rfl ?_
  refine jw_aload_n (pc := 0) (j := 0) dX11_answered_0 rfl rfl ?_
  refine jw_iconst (pc := 1) (v := 0) dX11_answered_1 rfl ?_
  refine jw_putI (pc := 2) dX11_answered_2 sC_0 fl_X11_83 fw_11_16 (by decide) rfl ?_
  replace h := h _ rfl
  generalize jrI M 0 (upd (M.1 0) 16 (0 : Int32)) = M1 at h ⊢
  refine jw_iload_n (pc := 5) (j := 1) dX11_answered_5 rfl rfl ?_
  exact jw_iret (pc := 6) dX11_answered_6 rfl ⟨_, rfl, h⟩
set_option maxRecDepth 20000 in
theorem b_X11_refused {x : jX} {d : Nat} {M : jM} {P : jM → Int32 → Prop} {a1 : Int32} 
    (h : ∀ M1, M1 = jrI M 0 (upd (M.1 0) 16 a1) → P M1 (-1 : Int32)) :
    JC x jtbC mX11_refused d [.ref (x.2.2.2 0), .int a1] M (jI P) := by
  refine JC.of rfl (Nat.le_of_ble_eq_true rfl) ?_
  refine jw_ls (ls' := [(0, .ref (x.2.2.2 0)), (1, .int a1)]) rfl ?_
  refine jw_aload_n (pc := 0) (j := 0) dX11_refused_0 rfl rfl ?_
  refine jw_iload_n (pc := 1) (j := 1) dX11_refused_1 rfl rfl ?_
  refine jw_putI (pc := 2) dX11_refused_2 sC_0 fl_X11_83 fw_11_16 (by decide) rfl ?_
  replace h := h _ rfl
  generalize jrI M 0 (upd (M.1 0) 16 a1) = M1 at h ⊢
  refine jw_iconst (pc := 5) (v := (-1)) dX11_refused_5 rfl ?_
  exact jw_iret (pc := 6) dX11_refused_6 rfl ⟨_, rfl, h⟩
set_option maxRecDepth 20000 in
theorem b_X11_isDone {x : jX} {d : Nat} {M : jM} {P : jM → Bool → Prop} {a1 : Int32} 
    (h : ∀ M1, M1 = jrI M 0 (upd (M.1 0) 16 a1) → (¬ a1 = 0 → P M1 false) ∧ (a1 = 0 → P M1 true)) :
    JC x jtbC mX11_isDone d [.ref (x.2.2.2 0), .int a1] M (jZ P) := by
  refine JC.of rfl (Nat.le_of_ble_eq_true rfl) ?_
  refine jw_ls (ls' := [(0, .ref (x.2.2.2 0)), (1, .int a1)]) rfl ?_
  refine jw_aload_n (pc := 0) (j := 0) dX11_isDone_0 rfl rfl ?_
  refine jw_iload_n (pc := 1) (j := 1) dX11_isDone_1 rfl rfl ?_
  refine jw_putI (pc := 2) dX11_isDone_2 sC_0 fl_X11_83 fw_11_16 (by decide) rfl ?_
  replace h := h _ rfl
  generalize jrI M 0 (upd (M.1 0) 16 a1) = M1 at h ⊢
  refine jw_iload_n (pc := 5) (j := 1) dX11_isDone_5 rfl rfl ?_
  refine jw_if_ne (pc := 6) (tgt := 13) dX11_isDone_6 (by decide) (fun c => ?_) (fun c => ?_)
  · replace h := h.1 c
    refine jw_iconst (pc := 13) (v := 0) dX11_isDone_13 rfl ?_
    exact jw_zret (pc := 14) dX11_isDone_14 rfl (Or.inl rfl) ⟨false, rfl, h⟩
  · replace h := h.2 c
    refine jw_iconst (pc := 9) (v := 1) dX11_isDone_9 rfl ?_
    refine jw_goto (pc := 10) (tgt := 14) dX11_isDone_10 (by decide) ?_
    exact jw_zret (pc := 14) dX11_isDone_14 rfl (Or.inr rfl) ⟨true, rfl, h⟩
set_option maxRecDepth 20000 in
theorem b_X11_putBytes {x : jX} {d : Nat} {M : jM} {P : jM → Prop} {a1 : Int32} 
    (h : JW x jtbC mX11_putBytes d (jV P) 3 [(0, .ref (x.2.2.2 0)), (1, .int a1), (2, .int (24 : Int32))] [] M) :
    JC x jtbC mX11_putBytes d [.ref (x.2.2.2 0), .int a1] M (jV P) := by
  refine JC.of rfl (Nat.le_of_ble_eq_true rfl) ?_
  refine jw_ls (ls' := [(0, .ref (x.2.2.2 0)), (1, .int a1)]) rfl ?_
  refine jw_bipush (pc := 0) (v := 24) dX11_putBytes_0 rfl ?_
  refine jw_istore_n (pc := 2) (ls' := [(2, .int (24 : Int32)), (0, .ref (x.2.2.2 0)), (1, .int a1)]) dX11_putBytes_2 rfl (by decide) rfl ?_
  exact jw_sub [1, 2, 0] rfl h
set_option maxRecDepth 20000 in
theorem b_X11_putBytes_3 {x : jX} {d : Nat} {M : jM} {P : jM → Prop} {l1 : Int32} {l2 : Int32} 
    (h : (l2 < 0 → P M) ∧ (¬ l2 < 0 → ((900 : Int32) ≤ (M.1 0 14) → P M) ∧ (¬ (900 : Int32) ≤ (M.1 0 14) → ∃ j1, j1 < 900 ∧ M.1 0 14 = nI j1 ∧ (∀ M1, M1 = jrI M 2 (upd (M.1 2) j1 (((l1 >>> (l2 &&& 31)).toInt8.toInt32).toInt8.toInt32)) → ∀ M2, M2 = jrI M1 0 (upd (M1.1 0) 14 ((M1.1 0 14) + (1 : Int32))) → JW x jtbC mX11_putBytes d (jV P) 3 [(0, .ref (x.2.2.2 0)), (1, .int l1), (2, .int (l2 + (-8)))] [] M2)))) :
    JW x jtbC mX11_putBytes d (jV P) 3 [(0, .ref (x.2.2.2 0)), (1, .int l1), (2, .int l2)] [] M := by
  refine jw_iload_n (pc := 3) (j := 2) dX11_putBytes_3 rfl rfl ?_
  refine jw_if_lt (pc := 4) (tgt := 46) dX11_putBytes_4 (by decide) (fun c => ?_) (fun c => ?_)
  · replace h := h.1 c
    exact jw_vret (pc := 46) dX11_putBytes_46 rfl ⟨rfl, h⟩
  · replace h := h.2 c
    refine jw_aload_n (pc := 7) (j := 0) dX11_putBytes_7 rfl rfl ?_
    refine jw_getI (pc := 8) dX11_putBytes_8 sC_0 fl_X11_130 (by decide) rfl ?_
    refine jw_sipush (pc := 11) (v := 900) dX11_putBytes_11 rfl ?_
    refine jw_icmp_ge (pc := 14) (tgt := 46) dX11_putBytes_14 (by decide) (fun c => ?_) (fun c => ?_)
    · replace h := h.1 c
      exact jw_vret (pc := 46) dX11_putBytes_46 rfl ⟨rfl, h⟩
    · replace h := h.2 c
      refine jw_aload_n (pc := 17) (j := 0) dX11_putBytes_17 rfl rfl ?_
      refine jw_getR (pc := 18) (r := 2) dX11_putBytes_18 sC_0 fl_X11_15 (by decide) rfl rfl ?_
      refine jw_aload_n (pc := 21) (j := 0) dX11_putBytes_21 rfl rfl ?_
      refine jw_getI (pc := 22) dX11_putBytes_22 sC_0 fl_X11_130 (by decide) rfl ?_
      refine jw_iload_n (pc := 25) (j := 1) dX11_putBytes_25 rfl rfl ?_
      refine jw_iload_n (pc := 26) (j := 2) dX11_putBytes_26 rfl rfl ?_
      refine jw_ishr (pc := 27) dX11_putBytes_27 ?_
      refine jw_i2b (pc := 28) dX11_putBytes_28 ?_
      obtain ⟨j1, hj1, ej1, h⟩ := h
      refine jw_bast (pc := 29) (j := j1) dX11_putBytes_29 sC_2 hj1 ej1 (by decide) ?_
      replace h := h _ rfl
      generalize jrI M 2 (upd (M.1 2) j1 (((l1 >>> (l2 &&& 31)).toInt8.toInt32).toInt8.toInt32)) = M1 at h ⊢
      refine jw_aload_n (pc := 30) (j := 0) dX11_putBytes_30 rfl rfl ?_
      refine jw_dup (pc := 31) dX11_putBytes_31 rfl ?_
      refine jw_getI (pc := 32) dX11_putBytes_32 sC_0 fl_X11_130 (by decide) rfl ?_
      refine jw_iconst (pc := 35) (v := 1) dX11_putBytes_35 rfl ?_
      refine jw_iadd (pc := 36) dX11_putBytes_36 ?_
      refine jw_putI (pc := 37) dX11_putBytes_37 sC_0 fl_X11_130 fw_11_14 (by decide) rfl ?_
      replace h := h _ rfl
      generalize jrI M1 0 (upd (M1.1 0) 14 ((M1.1 0 14) + (1 : Int32))) = M2 at h ⊢
      refine jw_iinc (pc := 40) (j := 2) (u := l2 + (-8)) (ls' := [(2, .int (l2 + (-8))), (0, .ref (x.2.2.2 0)), (1, .int l1)]) dX11_putBytes_40 rfl rfl (by decide) rfl ?_
      refine jw_goto (pc := 43) (tgt := 3) dX11_putBytes_43 (by decide) ?_
      exact jw_sub [1, 2, 0] rfl h
set_option maxRecDepth 20000 in
theorem b_X11_tellFault {x : jX} {d : Nat} {M : jM} {P : jM → Prop} {o1 : Nat} (b1 : aX7 jtbC o1)
    (h : ∀ M1, M1 = jrI M 76 (upd (M.1 76) 0 (M.1 o1 6)) → ∀ M2, M2 = jrI M1 76 (upd (M1.1 76) 1 (M1.1 o1 7)) → P M2) :
    JC x jtbC mX11_tellFault d [.ref (x.2.2.2 0), .ref (x.2.2.2 o1)] M (jV P) := by
  refine JC.of rfl (Nat.le_of_ble_eq_true rfl) ?_
  refine jw_ls (ls' := [(0, .ref (x.2.2.2 0)), (1, .ref (x.2.2.2 o1))]) rfl ?_
  refine jw_aload_n (pc := 0) (j := 0) dX11_tellFault_0 rfl rfl ?_
  refine jw_getR (pc := 1) (r := 76) dX11_tellFault_1 sC_0 fl_X11_79 (by decide) rfl rfl ?_
  refine jw_iconst (pc := 4) (v := 0) dX11_tellFault_4 rfl ?_
  refine jw_aload_n (pc := 5) (j := 1) dX11_tellFault_5 rfl rfl ?_
  refine jw_getI (pc := 6) dX11_tellFault_6 b1.1 fl_X11_403 (by decide) rfl ?_
  refine jw_iast (pc := 9) (j := 0) dX11_tellFault_9 sC_76 (by decide) rfl (by decide) ?_
  replace h := h _ rfl
  generalize jrI M 76 (upd (M.1 76) 0 (M.1 o1 6)) = M1 at h ⊢
  refine jw_aload_n (pc := 10) (j := 0) dX11_tellFault_10 rfl rfl ?_
  refine jw_getR (pc := 11) (r := 76) dX11_tellFault_11 sC_0 fl_X11_79 (by decide) rfl rfl ?_
  refine jw_iconst (pc := 14) (v := 1) dX11_tellFault_14 rfl ?_
  refine jw_aload_n (pc := 15) (j := 1) dX11_tellFault_15 rfl rfl ?_
  refine jw_getI (pc := 16) dX11_tellFault_16 b1.1 fl_X11_408 (by decide) rfl ?_
  refine jw_iast (pc := 19) (j := 1) dX11_tellFault_19 sC_76 (by decide) rfl (by decide) ?_
  replace h := h _ rfl
  generalize jrI M1 76 (upd (M1.1 76) 1 (M1.1 o1 7)) = M2 at h ⊢
  exact jw_vret (pc := 20) dX11_tellFault_20 rfl ⟨rfl, h⟩
set_option maxRecDepth 20000 in
theorem b_X11_tellFraction {x : jX} {d : Nat} {M : jM} {P : jM → Prop} {a1 : Int32} {a2 : Int32} 
    (h : JC x jtbC mX11_commonDivisor d [.int a1, .int a2] M (jI fun M1 r1 => (a2 ≤ 0 → P M1) ∧ (¬ a2 ≤ 0 → (r1 ≤ 0 → P M1) ∧ (¬ r1 ≤ 0 → ¬ r1 = 0 ∧ (∀ M2, M2 = jrL M1 75 (vp_updL (M1.2 75) 0 ((a1 / r1).toInt64)) → ¬ r1 = 0 ∧ (∀ M3, M3 = jrL M2 75 (vp_updL (M2.2 75) 1 ((a2 / r1).toInt64)) → P M3)))))) :
    JC x jtbC mX11_tellFraction (d + 1) [.ref (x.2.2.2 0), .int a1, .int a2] M (jV P) := by
  refine JC.of rfl (Nat.le_of_ble_eq_true rfl) ?_
  refine jw_ls (ls' := [(0, .ref (x.2.2.2 0)), (1, .int a1), (2, .int a2)]) rfl ?_
  refine jw_iload_n (pc := 0) (j := 1) dX11_tellFraction_0 rfl rfl ?_
  refine jw_iload_n (pc := 1) (j := 2) dX11_tellFraction_1 rfl rfl ?_
  refine jw_callS (pc := 2) (m2 := mX11_commonDivisor) (As := [.int a1, .int a2]) (st := []) dX11_tellFraction_2 gm_X11_commonDivisor ml_X11_411 rfl (Nat.le_of_ble_eq_true rfl) (JC.mono h ?_)
  clear h
  rintro M1 _ ⟨r1, rfl, h⟩
  refine jw_st (st' := [.int r1]) rfl ?_
  refine jw_istore_n (pc := 5) (ls' := [(3, .int r1), (0, .ref (x.2.2.2 0)), (1, .int a1), (2, .int a2)]) dX11_tellFraction_5 rfl (by decide) rfl ?_
  refine jw_iload_n (pc := 6) (j := 3) dX11_tellFraction_6 rfl rfl ?_
  refine jw_if_le (pc := 7) (tgt := 34) dX11_tellFraction_7 (by decide) (fun c => ?_) (fun c => ?_)
  · replace h := h.1 c
    exact jw_vret (pc := 34) dX11_tellFraction_34 rfl ⟨rfl, h⟩
  · replace h := h.2 c
    refine jw_iload_n (pc := 10) (j := 0) dX11_tellFraction_10 rfl rfl ?_
    refine jw_if_le (pc := 11) (tgt := 34) dX11_tellFraction_11 (by decide) (fun c => ?_) (fun c => ?_)
    · replace h := h.1 c
      exact jw_vret (pc := 34) dX11_tellFraction_34 rfl ⟨rfl, h⟩
    · replace h := h.2 c
      refine jw_aload_n (pc := 14) (j := 1) dX11_tellFraction_14 rfl rfl ?_
      refine jw_getR (pc := 15) (r := 75) dX11_tellFraction_15 sC_0 fl_X11_75 (by decide) rfl rfl ?_
      refine jw_iconst (pc := 18) (v := 0) dX11_tellFraction_18 rfl ?_
      refine jw_iload_n (pc := 19) (j := 2) dX11_tellFraction_19 rfl rfl ?_
      refine jw_iload_n (pc := 20) (j := 0) dX11_tellFraction_20 rfl rfl ?_
      obtain ⟨h0, h⟩ := h
      refine jw_idiv (pc := 21) dX11_tellFraction_21 h0 ?_
      refine jw_i2l (pc := 22) dX11_tellFraction_22 ?_
      refine jw_last (pc := 23) (j := 0) dX11_tellFraction_23 sC_75 (by decide) rfl (by decide) ?_
      replace h := h _ rfl
      generalize jrL M1 75 (vp_updL (M1.2 75) 0 ((a1 / r1).toInt64)) = M2 at h ⊢
      refine jw_aload_n (pc := 24) (j := 1) dX11_tellFraction_24 rfl rfl ?_
      refine jw_getR (pc := 25) (r := 75) dX11_tellFraction_25 sC_0 fl_X11_75 (by decide) rfl rfl ?_
      refine jw_iconst (pc := 28) (v := 1) dX11_tellFraction_28 rfl ?_
      refine jw_iload_n (pc := 29) (j := 3) dX11_tellFraction_29 rfl rfl ?_
      refine jw_iload_n (pc := 30) (j := 0) dX11_tellFraction_30 rfl rfl ?_
      obtain ⟨h0, h⟩ := h
      refine jw_idiv (pc := 31) dX11_tellFraction_31 h0 ?_
      refine jw_i2l (pc := 32) dX11_tellFraction_32 ?_
      refine jw_last (pc := 33) (j := 1) dX11_tellFraction_33 sC_75 (by decide) rfl (by decide) ?_
      replace h := h _ rfl
      generalize jrL M2 75 (vp_updL (M2.2 75) 1 ((a2 / r1).toInt64)) = M3 at h ⊢
      exact jw_vret (pc := 34) dX11_tellFraction_34 rfl ⟨rfl, h⟩
set_option maxRecDepth 20000 in
theorem b_X11_commonDivisor {x : jX} {d : Nat} {M : jM} {P : jM → Int32 → Prop} {a0 : Int32} {a1 : Int32} 
    (h : JW x jtbC mX11_commonDivisor d (jI P) 7 [(2, .int a1), (3, .int a0), (4, .int (0 : Int32))] [] M) :
    JC x jtbC mX11_commonDivisor d [.int a0, .int a1] M (jI P) := by
  refine JC.of rfl (Nat.le_of_ble_eq_true rfl) ?_
  refine jw_ls (ls' := [(0, .int a0), (1, .int a1)]) rfl ?_
  refine jw_iload_n (pc := 0) (j := 1) dX11_commonDivisor_0 rfl rfl ?_
  refine jw_istore_n (pc := 1) (ls' := [(2, .int a1), (0, .int a0), (1, .int a1)]) dX11_commonDivisor_1 rfl (by decide) rfl ?_
  refine jw_iload_n (pc := 2) (j := 1) dX11_commonDivisor_2 rfl rfl ?_
  refine jw_istore_n (pc := 3) (ls' := [(3, .int a0), (2, .int a1), (0, .int a0), (1, .int a1)]) dX11_commonDivisor_3 rfl (by decide) rfl ?_
  refine jw_iconst (pc := 4) (v := 0) dX11_commonDivisor_4 rfl ?_
  refine jw_istore (pc := 5) (ls' := [(4, .int (0 : Int32)), (3, .int a0), (2, .int a1), (0, .int a0), (1, .int a1)]) dX11_commonDivisor_5 (by decide) rfl ?_
  exact jw_sub [2, 1, 0] rfl h
set_option maxRecDepth 20000 in
theorem b_X11_commonDivisor_7 {x : jX} {d : Nat} {M : jM} {P : jM → Int32 → Prop} {l2 : Int32} {l3 : Int32} {l4 : Int32} 
    (h : ((100 : Int32) ≤ l4 → P M l2) ∧ (¬ (100 : Int32) ≤ l4 → (l3 = 0 → P M l2) ∧ (¬ l3 = 0 → ¬ l3 = 0 ∧ (JW x jtbC mX11_commonDivisor d (jI P) 7 [(2, .int l3), (3, .int (l2 - l2 / l3 * l3)), (4, .int (l4 + 1))] [] M)))) :
    JW x jtbC mX11_commonDivisor d (jI P) 7 [(2, .int l2), (3, .int l3), (4, .int l4)] [] M := by
  refine jw_iload (pc := 7) (j := 2) dX11_commonDivisor_7 rfl ?_
  refine jw_bipush (pc := 9) (v := 100) dX11_commonDivisor_9 rfl ?_
  refine jw_icmp_ge (pc := 11) (tgt := 34) dX11_commonDivisor_11 (by decide) (fun c => ?_) (fun c => ?_)
  · replace h := h.1 c
    refine jw_iload_n (pc := 34) (j := 0) dX11_commonDivisor_34 rfl rfl ?_
    exact jw_iret (pc := 35) dX11_commonDivisor_35 rfl ⟨_, rfl, h⟩
  · replace h := h.2 c
    refine jw_iload_n (pc := 14) (j := 1) dX11_commonDivisor_14 rfl rfl ?_
    refine jw_if_eq (pc := 15) (tgt := 34) dX11_commonDivisor_15 (by decide) (fun c => ?_) (fun c => ?_)
    · replace h := h.1 c
      refine jw_iload_n (pc := 34) (j := 0) dX11_commonDivisor_34 rfl rfl ?_
      exact jw_iret (pc := 35) dX11_commonDivisor_35 rfl ⟨_, rfl, h⟩
    · replace h := h.2 c
      refine jw_iload_n (pc := 18) (j := 0) dX11_commonDivisor_18 rfl rfl ?_
      refine jw_iload_n (pc := 19) (j := 1) dX11_commonDivisor_19 rfl rfl ?_
      obtain ⟨h0, h⟩ := h
      refine jw_irem (pc := 20) dX11_commonDivisor_20 h0 ?_
      refine jw_istore (pc := 21) (ls' := [(5, .int (l2 - l2 / l3 * l3)), (2, .int l2), (3, .int l3), (4, .int l4)]) dX11_commonDivisor_21 (by decide) rfl ?_
      refine jw_iload_n (pc := 23) (j := 2) dX11_commonDivisor_23 rfl rfl ?_
      refine jw_istore_n (pc := 24) (ls' := [(2, .int l3), (5, .int (l2 - l2 / l3 * l3)), (3, .int l3), (4, .int l4)]) dX11_commonDivisor_24 rfl (by decide) rfl ?_
      refine jw_iload (pc := 25) (j := 1) dX11_commonDivisor_25 rfl ?_
      refine jw_istore_n (pc := 27) (ls' := [(3, .int (l2 - l2 / l3 * l3)), (2, .int l3), (5, .int (l2 - l2 / l3 * l3)), (4, .int l4)]) dX11_commonDivisor_27 rfl (by decide) rfl ?_
      refine jw_iinc (pc := 28) (j := 3) (u := l4 + 1) (ls' := [(4, .int (l4 + 1)), (3, .int (l2 - l2 / l3 * l3)), (2, .int l3), (5, .int (l2 - l2 / l3 * l3))]) dX11_commonDivisor_28 rfl rfl (by decide) rfl ?_
      refine jw_goto (pc := 31) (tgt := 7) dX11_commonDivisor_31 (by decide) ?_
      exact jw_sub [2, 1, 0] rfl h
set_option maxRecDepth 20000 in
theorem b_X11_isTray {x : jX} {d : Nat} {M : jM} {P : jM → Bool → Prop} {a0 : Int32} 
    (h : (a0 < 0 → P M false) ∧ (¬ a0 < 0 → ((4 : Int32) ≤ a0 → P M false) ∧ (¬ (4 : Int32) ≤ a0 → P M true))) :
    JC x jtbC mX11_isTray d [.int a0] M (jZ P) := by
  refine JC.of rfl (Nat.le_of_ble_eq_true rfl) ?_
  refine jw_ls (ls' := [(0, .int a0)]) rfl ?_
  refine jw_iload_n (pc := 0) (j := 0) dX11_isTray_0 rfl rfl ?_
  refine jw_if_lt (pc := 1) (tgt := 13) dX11_isTray_1 (by decide) (fun c => ?_) (fun c => ?_)
  · replace h := h.1 c
    refine jw_iconst (pc := 13) (v := 0) dX11_isTray_13 rfl ?_
    exact jw_zret (pc := 14) dX11_isTray_14 rfl (Or.inl rfl) ⟨false, rfl, h⟩
  · replace h := h.2 c
    refine jw_iload_n (pc := 4) (j := 0) dX11_isTray_4 rfl rfl ?_
    refine jw_iconst (pc := 5) (v := 4) dX11_isTray_5 rfl ?_
    refine jw_icmp_ge (pc := 6) (tgt := 13) dX11_isTray_6 (by decide) (fun c => ?_) (fun c => ?_)
    · replace h := h.1 c
      refine jw_iconst (pc := 13) (v := 0) dX11_isTray_13 rfl ?_
      exact jw_zret (pc := 14) dX11_isTray_14 rfl (Or.inl rfl) ⟨false, rfl, h⟩
    · replace h := h.2 c
      refine jw_iconst (pc := 9) (v := 1) dX11_isTray_9 rfl ?_
      refine jw_goto (pc := 10) (tgt := 14) dX11_isTray_10 (by decide) ?_
      exact jw_zret (pc := 14) dX11_isTray_14 rfl (Or.inr rfl) ⟨true, rfl, h⟩
set_option maxRecDepth 20000 in
theorem b_X11_isHeight {x : jX} {d : Nat} {M : jM} {P : jM → Bool → Prop} {a0 : Int64} 
    (h : (a0 < (0 : Int64) → P M false) ∧ (¬ a0 < (0 : Int64) → ((99 : Int64) < a0 → P M false) ∧ (¬ (99 : Int64) < a0 → P M true))) :
    JC x jtbC mX11_isHeight d [.long a0] M (jZ P) := by
  refine JC.of rfl (Nat.le_of_ble_eq_true rfl) ?_
  refine jw_ls (ls' := [(0, .long a0)]) rfl ?_
  refine jw_lload_n (pc := 0) (j := 0) dX11_isHeight_0 rfl rfl ?_
  refine jw_lconst (pc := 1) (v := 0) dX11_isHeight_1 rfl ?_
  refine jw_lcmp (pc := 2) dX11_isHeight_2 ?_
  refine jw_if_lt (pc := 3) (tgt := 18) dX11_isHeight_3 (by decide) (fun c => ?_) (fun c => ?_)
  · replace h := h.1 ((jcmp_lt _ _).mp c)
    refine jw_iconst (pc := 18) (v := 0) dX11_isHeight_18 rfl ?_
    exact jw_zret (pc := 19) dX11_isHeight_19 rfl (Or.inl rfl) ⟨false, rfl, h⟩
  · replace h := h.2 (fun z => c ((jcmp_lt _ _).mpr z))
    refine jw_lload_n (pc := 6) (j := 0) dX11_isHeight_6 rfl rfl ?_
    refine jw_ldc2 (pc := 7) (v := 99) dX11_isHeight_7 kl_X11_414 ?_
    refine jw_lcmp (pc := 10) dX11_isHeight_10 ?_
    refine jw_if_gt (pc := 11) (tgt := 18) dX11_isHeight_11 (by decide) (fun c => ?_) (fun c => ?_)
    · replace h := h.1 ((jcmp_gt _ _).mp c)
      refine jw_iconst (pc := 18) (v := 0) dX11_isHeight_18 rfl ?_
      exact jw_zret (pc := 19) dX11_isHeight_19 rfl (Or.inl rfl) ⟨false, rfl, h⟩
    · replace h := h.2 (fun z => c ((jcmp_gt _ _).mpr z))
      refine jw_iconst (pc := 14) (v := 1) dX11_isHeight_14 rfl ?_
      refine jw_goto (pc := 15) (tgt := 19) dX11_isHeight_15 (by decide) ?_
      exact jw_zret (pc := 19) dX11_isHeight_19 rfl (Or.inr rfl) ⟨true, rfl, h⟩
set_option maxRecDepth 20000 in
theorem b_X11_isSeed {x : jX} {d : Nat} {M : jM} {P : jM → Bool → Prop} {a0 : Int32} 
    (h : (a0 < 0 → P M false) ∧ (¬ a0 < 0 → ((9999 : Int32) < a0 → P M false) ∧ (¬ (9999 : Int32) < a0 → P M true))) :
    JC x jtbC mX11_isSeed d [.int a0] M (jZ P) := by
  refine JC.of rfl (Nat.le_of_ble_eq_true rfl) ?_
  refine jw_ls (ls' := [(0, .int a0)]) rfl ?_
  refine jw_iload_n (pc := 0) (j := 0) dX11_isSeed_0 rfl rfl ?_
  refine jw_if_lt (pc := 1) (tgt := 15) dX11_isSeed_1 (by decide) (fun c => ?_) (fun c => ?_)
  · replace h := h.1 c
    refine jw_iconst (pc := 15) (v := 0) dX11_isSeed_15 rfl ?_
    exact jw_zret (pc := 16) dX11_isSeed_16 rfl (Or.inl rfl) ⟨false, rfl, h⟩
  · replace h := h.2 c
    refine jw_iload_n (pc := 4) (j := 0) dX11_isSeed_4 rfl rfl ?_
    refine jw_sipush (pc := 5) (v := 9999) dX11_isSeed_5 rfl ?_
    refine jw_icmp_gt (pc := 8) (tgt := 15) dX11_isSeed_8 (by decide) (fun c => ?_) (fun c => ?_)
    · replace h := h.1 c
      refine jw_iconst (pc := 15) (v := 0) dX11_isSeed_15 rfl ?_
      exact jw_zret (pc := 16) dX11_isSeed_16 rfl (Or.inl rfl) ⟨false, rfl, h⟩
    · replace h := h.2 c
      refine jw_iconst (pc := 11) (v := 1) dX11_isSeed_11 rfl ?_
      refine jw_goto (pc := 12) (tgt := 16) dX11_isSeed_12 (by decide) ?_
      exact jw_zret (pc := 16) dX11_isSeed_16 rfl (Or.inr rfl) ⟨true, rfl, h⟩
set_option maxRecDepth 20000 in
theorem b_X11_trayPlaceStatus {x : jX} {d : Nat} {M : jM} {P : jM → Int32 → Prop} {a1 : Int32} {a2 : Int32} 
    (h : JC x jtbC mX11_isTray d [.int a1] M (jZ fun M1 b1 => (b1 = true → ∃ j1, j1 < 4 ∧ a1 = nI j1 ∧ ((¬ (M1.1 (77 + 2 * j1) 0) = 0 → JC x jtbC mX9_hasPlaces d [.ref (x.2.2.2 (77 + 2 * j1)), .int a2, .int (1 : Int32)] M1 (jZ fun M2 b2 => (b2 = false → P M2 (4 : Int32)) ∧ (b2 = true → P M2 (0 : Int32)))) ∧ ((M1.1 (77 + 2 * j1) 0) = 0 → P M1 (3 : Int32)))) ∧ (b1 = false → P M1 (1 : Int32)))) :
    JC x jtbC mX11_trayPlaceStatus (d + 1) [.ref (x.2.2.2 0), .int a1, .int a2] M (jI P) := by
  refine JC.of rfl (Nat.le_of_ble_eq_true rfl) ?_
  refine jw_ls (ls' := [(0, .ref (x.2.2.2 0)), (1, .int a1), (2, .int a2)]) rfl ?_
  refine jw_iload_n (pc := 0) (j := 1) dX11_trayPlaceStatus_0 rfl rfl ?_
  refine jw_callS (pc := 1) (m2 := mX11_isTray) (As := [.int a1]) (st := []) dX11_trayPlaceStatus_1 gm_X11_isTray ml_X11_87 rfl (Nat.le_of_ble_eq_true rfl) (JC.mono h ?_)
  clear h
  rintro M1 _ ⟨b1, rfl, h⟩
  refine jw_st (st' := [.int (jb b1)]) rfl ?_
  refine jw_if_ne (pc := 4) (tgt := 9) dX11_trayPlaceStatus_4 (by decide) (fun c => ?_) (fun c => ?_)
  · replace h := h.1 (jb_ne c)
    refine jw_aload_n (pc := 9) (j := 0) dX11_trayPlaceStatus_9 rfl rfl ?_
    refine jw_getR (pc := 10) (r := 1) dX11_trayPlaceStatus_10 sC_0 fl_X11_11 (by decide) rfl rfl ?_
    refine jw_iload_n (pc := 13) (j := 1) dX11_trayPlaceStatus_13 rfl rfl ?_
    obtain ⟨j1, hj1, ej1, h⟩ := h
    refine jw_aald24 (pc := 14) (j := j1) (r := 77 + 2 * j1) dX11_trayPlaceStatus_14 sC_1 hj1 ej1 (by decide) (by simp [jel]) ?_
    refine jw_getI (pc := 15) dX11_trayPlaceStatus_15 (at9 hj1).1 fl_X11_113 (by decide) rfl ?_
    refine jw_if_ne (pc := 18) (tgt := 23) dX11_trayPlaceStatus_18 (by decide) (fun c => ?_) (fun c => ?_)
    · replace h := h.1 c
      refine jw_aload_n (pc := 23) (j := 0) dX11_trayPlaceStatus_23 rfl rfl ?_
      refine jw_getR (pc := 24) (r := 1) dX11_trayPlaceStatus_24 sC_0 fl_X11_11 (by decide) rfl rfl ?_
      refine jw_iload_n (pc := 27) (j := 1) dX11_trayPlaceStatus_27 rfl rfl ?_
      refine jw_aald24 (pc := 28) (j := j1) (r := 77 + 2 * j1) dX11_trayPlaceStatus_28 sC_1 hj1 ej1 (by decide) (by simp [jel]) ?_
      refine jw_iload_n (pc := 29) (j := 2) dX11_trayPlaceStatus_29 rfl rfl ?_
      refine jw_iconst (pc := 30) (v := 1) dX11_trayPlaceStatus_30 rfl ?_
      refine jw_callV (pc := 31) (m2 := mX9_hasPlaces) (As := [.int a2, .int (1 : Int32)]) (st := []) dX11_trayPlaceStatus_31 (at9 hj1).1 (by decide) rfl rfl gm_X9_hasPlaces ml_X11_120 rfl (Nat.le_of_ble_eq_true rfl) (JC.mono h ?_)
      clear h
      rintro M2 _ ⟨b2, rfl, h⟩
      refine jw_st (st' := [.int (jb b2)]) rfl ?_
      refine jw_if_eq (pc := 34) (tgt := 41) dX11_trayPlaceStatus_34 (by decide) (fun c => ?_) (fun c => ?_)
      · replace h := h.1 ((jb_0 _).mp c)
        refine jw_iconst (pc := 41) (v := 4) dX11_trayPlaceStatus_41 rfl ?_
        exact jw_iret (pc := 42) dX11_trayPlaceStatus_42 rfl ⟨_, rfl, h⟩
      · replace h := h.2 (jb_ne c)
        refine jw_iconst (pc := 37) (v := 0) dX11_trayPlaceStatus_37 rfl ?_
        refine jw_goto (pc := 38) (tgt := 42) dX11_trayPlaceStatus_38 (by decide) ?_
        exact jw_iret (pc := 42) dX11_trayPlaceStatus_42 rfl ⟨_, rfl, h⟩
    · replace h := h.2 c
      refine jw_iconst (pc := 21) (v := 3) dX11_trayPlaceStatus_21 rfl ?_
      exact jw_iret (pc := 22) dX11_trayPlaceStatus_22 rfl ⟨_, rfl, h⟩
  · replace h := h.2 ((jb_0 _).mp c)
    refine jw_iconst (pc := 7) (v := 1) dX11_trayPlaceStatus_7 rfl ?_
    exact jw_iret (pc := 8) dX11_trayPlaceStatus_8 rfl ⟨_, rfl, h⟩
set_option maxRecDepth 20000 in
theorem b_X11_trayRowStatus {x : jX} {d : Nat} {M : jM} {P : jM → Int32 → Prop} {a1 : Int32} {a2 : Int32} 
    (h : JC x jtbC mX11_isTray d [.int a1] M (jZ fun M1 b1 => (b1 = true → ∃ j1, j1 < 4 ∧ a1 = nI j1 ∧ (((M1.1 (77 + 2 * j1) 0) = 0 → P M1 (3 : Int32)) ∧ (¬ (M1.1 (77 + 2 * j1) 0) = 0 → JC x jtbC mX9_rowStatus d [.ref (x.2.2.2 (77 + 2 * j1)), .int a2] M1 (jI fun M2 r1 => P M2 r1)))) ∧ (b1 = false → P M1 (1 : Int32)))) :
    JC x jtbC mX11_trayRowStatus (d + 1) [.ref (x.2.2.2 0), .int a1, .int a2] M (jI P) := by
  refine JC.of rfl (Nat.le_of_ble_eq_true rfl) ?_
  refine jw_ls (ls' := [(0, .ref (x.2.2.2 0)), (1, .int a1), (2, .int a2)]) rfl ?_
  refine jw_iload_n (pc := 0) (j := 1) dX11_trayRowStatus_0 rfl rfl ?_
  refine jw_callS (pc := 1) (m2 := mX11_isTray) (As := [.int a1]) (st := []) dX11_trayRowStatus_1 gm_X11_isTray ml_X11_87 rfl (Nat.le_of_ble_eq_true rfl) (JC.mono h ?_)
  clear h
  rintro M1 _ ⟨b1, rfl, h⟩
  refine jw_st (st' := [.int (jb b1)]) rfl ?_
  refine jw_if_ne (pc := 4) (tgt := 9) dX11_trayRowStatus_4 (by decide) (fun c => ?_) (fun c => ?_)
  · replace h := h.1 (jb_ne c)
    refine jw_aload_n (pc := 9) (j := 0) dX11_trayRowStatus_9 rfl rfl ?_
    refine jw_getR (pc := 10) (r := 1) dX11_trayRowStatus_10 sC_0 fl_X11_11 (by decide) rfl rfl ?_
    refine jw_iload_n (pc := 13) (j := 1) dX11_trayRowStatus_13 rfl rfl ?_
    obtain ⟨j1, hj1, ej1, h⟩ := h
    refine jw_aald24 (pc := 14) (j := j1) (r := 77 + 2 * j1) dX11_trayRowStatus_14 sC_1 hj1 ej1 (by decide) (by simp [jel]) ?_
    refine jw_getI (pc := 15) dX11_trayRowStatus_15 (at9 hj1).1 fl_X11_113 (by decide) rfl ?_
    refine jw_if_eq (pc := 18) (tgt := 34) dX11_trayRowStatus_18 (by decide) (fun c => ?_) (fun c => ?_)
    · replace h := h.1 c
      refine jw_iconst (pc := 34) (v := 3) dX11_trayRowStatus_34 rfl ?_
      exact jw_iret (pc := 35) dX11_trayRowStatus_35 rfl ⟨_, rfl, h⟩
    · replace h := h.2 c
      refine jw_aload_n (pc := 21) (j := 0) dX11_trayRowStatus_21 rfl rfl ?_
      refine jw_getR (pc := 22) (r := 1) dX11_trayRowStatus_22 sC_0 fl_X11_11 (by decide) rfl rfl ?_
      refine jw_iload_n (pc := 25) (j := 1) dX11_trayRowStatus_25 rfl rfl ?_
      refine jw_aald24 (pc := 26) (j := j1) (r := 77 + 2 * j1) dX11_trayRowStatus_26 sC_1 hj1 ej1 (by decide) (by simp [jel]) ?_
      refine jw_iload_n (pc := 27) (j := 2) dX11_trayRowStatus_27 rfl rfl ?_
      refine jw_callV (pc := 28) (m2 := mX9_rowStatus) (As := [.int a2]) (st := []) dX11_trayRowStatus_28 (at9 hj1).1 (by decide) rfl rfl gm_X9_rowStatus ml_X11_416 rfl (Nat.le_of_ble_eq_true rfl) (JC.mono h ?_)
      clear h
      rintro M2 _ ⟨r1, rfl, h⟩
      refine jw_st (st' := [.int r1]) rfl ?_
      refine jw_goto (pc := 31) (tgt := 35) dX11_trayRowStatus_31 (by decide) ?_
      exact jw_iret (pc := 35) dX11_trayRowStatus_35 rfl ⟨_, rfl, h⟩
  · replace h := h.2 ((jb_0 _).mp c)
    refine jw_iconst (pc := 7) (v := 1) dX11_trayRowStatus_7 rfl ?_
    exact jw_iret (pc := 8) dX11_trayRowStatus_8 rfl ⟨_, rfl, h⟩
set_option maxRecDepth 20000 in
theorem b_X11_toldStatus {x : jX} {d : Nat} {M : jM} {P : jM → Int32 → Prop} {a1 : Int32} {a2 : Int32} {a3 : Int32} {a4 : Int32} {a5 : Int32} 
    (h : JC x jtbC mX11_isTray d [.int a1] M (jZ fun M1 b1 => (b1 = true → ∃ j1, j1 < 4 ∧ a1 = nI j1 ∧ ((¬ (M1.1 (77 + 2 * j1) 0) = 0 → (a2 < a3 → P M1 (5 : Int32)) ∧ (¬ a2 < a3 → (a2 ≤ a4 → JC x jtbC mX9_rowStatus d [.ref (x.2.2.2 (77 + 2 * j1)), .int (a2 * a5)] M1 (jI fun M2 r1 => P M2 r1)) ∧ (¬ a2 ≤ a4 → P M1 (5 : Int32)))) ∧ ((M1.1 (77 + 2 * j1) 0) = 0 → P M1 (3 : Int32)))) ∧ (b1 = false → P M1 (1 : Int32)))) :
    JC x jtbC mX11_toldStatus (d + 1) [.ref (x.2.2.2 0), .int a1, .int a2, .int a3, .int a4, .int a5] M (jI P) := by
  refine JC.of rfl (Nat.le_of_ble_eq_true rfl) ?_
  refine jw_ls (ls' := [(0, .ref (x.2.2.2 0)), (1, .int a1), (2, .int a2), (3, .int a3), (4, .int a4), (5, .int a5)]) rfl ?_
  refine jw_iload_n (pc := 0) (j := 1) dX11_toldStatus_0 rfl rfl ?_
  refine jw_callS (pc := 1) (m2 := mX11_isTray) (As := [.int a1]) (st := []) dX11_toldStatus_1 gm_X11_isTray ml_X11_87 rfl (Nat.le_of_ble_eq_true rfl) (JC.mono h ?_)
  clear h
  rintro M1 _ ⟨b1, rfl, h⟩
  refine jw_st (st' := [.int (jb b1)]) rfl ?_
  refine jw_if_ne (pc := 4) (tgt := 9) dX11_toldStatus_4 (by decide) (fun c => ?_) (fun c => ?_)
  · replace h := h.1 (jb_ne c)
    refine jw_aload_n (pc := 9) (j := 0) dX11_toldStatus_9 rfl rfl ?_
    refine jw_getR (pc := 10) (r := 1) dX11_toldStatus_10 sC_0 fl_X11_11 (by decide) rfl rfl ?_
    refine jw_iload_n (pc := 13) (j := 1) dX11_toldStatus_13 rfl rfl ?_
    obtain ⟨j1, hj1, ej1, h⟩ := h
    refine jw_aald24 (pc := 14) (j := j1) (r := 77 + 2 * j1) dX11_toldStatus_14 sC_1 hj1 ej1 (by decide) (by simp [jel]) ?_
    refine jw_getI (pc := 15) dX11_toldStatus_15 (at9 hj1).1 fl_X11_113 (by decide) rfl ?_
    refine jw_if_ne (pc := 18) (tgt := 23) dX11_toldStatus_18 (by decide) (fun c => ?_) (fun c => ?_)
    · replace h := h.1 c
      refine jw_iload_n (pc := 23) (j := 2) dX11_toldStatus_23 rfl rfl ?_
      refine jw_iload_n (pc := 24) (j := 3) dX11_toldStatus_24 rfl rfl ?_
      refine jw_icmp_lt (pc := 25) (tgt := 34) dX11_toldStatus_25 (by decide) (fun c => ?_) (fun c => ?_)
      · replace h := h.1 c
        refine jw_iconst (pc := 34) (v := 5) dX11_toldStatus_34 rfl ?_
        exact jw_iret (pc := 35) dX11_toldStatus_35 rfl ⟨_, rfl, h⟩
      · replace h := h.2 c
        refine jw_iload_n (pc := 28) (j := 2) dX11_toldStatus_28 rfl rfl ?_
        refine jw_iload (pc := 29) (j := 4) dX11_toldStatus_29 rfl ?_
        refine jw_icmp_le (pc := 31) (tgt := 36) dX11_toldStatus_31 (by decide) (fun c => ?_) (fun c => ?_)
        · replace h := h.1 c
          refine jw_aload_n (pc := 36) (j := 0) dX11_toldStatus_36 rfl rfl ?_
          refine jw_getR (pc := 37) (r := 1) dX11_toldStatus_37 sC_0 fl_X11_11 (by decide) rfl rfl ?_
          refine jw_iload_n (pc := 40) (j := 1) dX11_toldStatus_40 rfl rfl ?_
          refine jw_aald24 (pc := 41) (j := j1) (r := 77 + 2 * j1) dX11_toldStatus_41 sC_1 hj1 ej1 (by decide) (by simp [jel]) ?_
          refine jw_iload_n (pc := 42) (j := 2) dX11_toldStatus_42 rfl rfl ?_
          refine jw_iload (pc := 43) (j := 5) dX11_toldStatus_43 rfl ?_
          refine jw_imul (pc := 45) dX11_toldStatus_45 ?_
          refine jw_callV (pc := 46) (m2 := mX9_rowStatus) (As := [.int (a2 * a5)]) (st := []) dX11_toldStatus_46 (at9 hj1).1 (by decide) rfl rfl gm_X9_rowStatus ml_X11_416 rfl (Nat.le_of_ble_eq_true rfl) (JC.mono h ?_)
          clear h
          rintro M2 _ ⟨r1, rfl, h⟩
          refine jw_st (st' := [.int r1]) rfl ?_
          exact jw_iret (pc := 49) dX11_toldStatus_49 rfl ⟨_, rfl, h⟩
        · replace h := h.2 c
          refine jw_iconst (pc := 34) (v := 5) dX11_toldStatus_34 rfl ?_
          exact jw_iret (pc := 35) dX11_toldStatus_35 rfl ⟨_, rfl, h⟩
    · replace h := h.2 c
      refine jw_iconst (pc := 21) (v := 3) dX11_toldStatus_21 rfl ?_
      exact jw_iret (pc := 22) dX11_toldStatus_22 rfl ⟨_, rfl, h⟩
  · replace h := h.2 ((jb_0 _).mp c)
    refine jw_iconst (pc := 7) (v := 1) dX11_toldStatus_7 rfl ?_
    exact jw_iret (pc := 8) dX11_toldStatus_8 rfl ⟨_, rfl, h⟩
set_option maxRecDepth 20000 in
theorem b_X11_coupleStatus {x : jX} {d : Nat} {M : jM} {P : jM → Int32 → Prop} {o0 : Nat} {o1 : Nat} {a2 : Int32} (b0 : aX9 jtbC o0) (b1 : aX9 jtbC o1)
    (h : ((M.1 o0 0) = 0 → P M (3 : Int32)) ∧ (¬ (M.1 o0 0) = 0 → (¬ (M.1 o1 0) = 0 → JC x jtbC mX9_rowStatus d [.ref (x.2.2.2 o0), .int a2] M (jI fun M1 r1 => JC x jtbC mX9_rowStatus d [.ref (x.2.2.2 o1), .int a2] M1 (jI fun M2 r2 => (r1 = (4 : Int32) → P M2 (4 : Int32)) ∧ (¬ r1 = (4 : Int32) → (¬ r2 = (4 : Int32) → (r1 = 0 → P M2 r2) ∧ (¬ r1 = 0 → P M2 r1)) ∧ (r2 = (4 : Int32) → P M2 (4 : Int32)))))) ∧ ((M.1 o1 0) = 0 → P M (3 : Int32)))) :
    JC x jtbC mX11_coupleStatus (d + 1) [.ref (x.2.2.2 o0), .ref (x.2.2.2 o1), .int a2] M (jI P) := by
  refine JC.of rfl (Nat.le_of_ble_eq_true rfl) ?_
  refine jw_ls (ls' := [(0, .ref (x.2.2.2 o0)), (1, .ref (x.2.2.2 o1)), (2, .int a2)]) rfl ?_
  refine jw_aload_n (pc := 0) (j := 0) dX11_coupleStatus_0 rfl rfl ?_
  refine jw_getI (pc := 1) dX11_coupleStatus_1 b0.1 fl_X11_113 (by decide) rfl ?_
  refine jw_if_eq (pc := 4) (tgt := 14) dX11_coupleStatus_4 (by decide) (fun c => ?_) (fun c => ?_)
  · replace h := h.1 c
    refine jw_iconst (pc := 14) (v := 3) dX11_coupleStatus_14 rfl ?_
    exact jw_iret (pc := 15) dX11_coupleStatus_15 rfl ⟨_, rfl, h⟩
  · replace h := h.2 c
    refine jw_aload_n (pc := 7) (j := 1) dX11_coupleStatus_7 rfl rfl ?_
    refine jw_getI (pc := 8) dX11_coupleStatus_8 b1.1 fl_X11_113 (by decide) rfl ?_
    refine jw_if_ne (pc := 11) (tgt := 16) dX11_coupleStatus_11 (by decide) (fun c => ?_) (fun c => ?_)
    · replace h := h.1 c
      refine jw_aload_n (pc := 16) (j := 0) dX11_coupleStatus_16 rfl rfl ?_
      refine jw_iload_n (pc := 17) (j := 2) dX11_coupleStatus_17 rfl rfl ?_
      refine jw_callV (pc := 18) (m2 := mX9_rowStatus) (As := [.int a2]) (st := []) dX11_coupleStatus_18 b0.1 (by decide) rfl rfl gm_X9_rowStatus ml_X11_416 rfl (Nat.le_of_ble_eq_true rfl) (JC.mono h ?_)
      clear h
      rintro M1 _ ⟨r1, rfl, h⟩
      refine jw_st (st' := [.int r1]) rfl ?_
      refine jw_istore_n (pc := 21) (ls' := [(3, .int r1), (0, .ref (x.2.2.2 o0)), (1, .ref (x.2.2.2 o1)), (2, .int a2)]) dX11_coupleStatus_21 rfl (by decide) rfl ?_
      refine jw_aload_n (pc := 22) (j := 2) dX11_coupleStatus_22 rfl rfl ?_
      refine jw_iload_n (pc := 23) (j := 3) dX11_coupleStatus_23 rfl rfl ?_
      refine jw_callV (pc := 24) (m2 := mX9_rowStatus) (As := [.int a2]) (st := []) dX11_coupleStatus_24 b1.1 (by decide) rfl rfl gm_X9_rowStatus ml_X11_416 rfl (Nat.le_of_ble_eq_true rfl) (JC.mono h ?_)
      clear h
      rintro M2 _ ⟨r2, rfl, h⟩
      refine jw_st (st' := [.int r2]) rfl ?_
      refine jw_istore (pc := 27) (ls' := [(4, .int r2), (3, .int r1), (0, .ref (x.2.2.2 o0)), (1, .ref (x.2.2.2 o1)), (2, .int a2)]) dX11_coupleStatus_27 (by decide) rfl ?_
      refine jw_iload_n (pc := 29) (j := 1) dX11_coupleStatus_29 rfl rfl ?_
      refine jw_iconst (pc := 30) (v := 4) dX11_coupleStatus_30 rfl ?_
      refine jw_icmp_eq (pc := 31) (tgt := 40) dX11_coupleStatus_31 (by decide) (fun c => ?_) (fun c => ?_)
      · replace h := h.1 c
        refine jw_iconst (pc := 40) (v := 4) dX11_coupleStatus_40 rfl ?_
        exact jw_iret (pc := 41) dX11_coupleStatus_41 rfl ⟨_, rfl, h⟩
      · replace h := h.2 c
        refine jw_iload (pc := 34) (j := 0) dX11_coupleStatus_34 rfl ?_
        refine jw_iconst (pc := 36) (v := 4) dX11_coupleStatus_36 rfl ?_
        refine jw_icmp_ne (pc := 37) (tgt := 42) dX11_coupleStatus_37 (by decide) (fun c => ?_) (fun c => ?_)
        · replace h := h.1 c
          refine jw_iload_n (pc := 42) (j := 1) dX11_coupleStatus_42 rfl rfl ?_
          refine jw_if_eq (pc := 43) (tgt := 50) dX11_coupleStatus_43 (by decide) (fun c => ?_) (fun c => ?_)
          · replace h := h.1 c
            refine jw_iload (pc := 50) (j := 0) dX11_coupleStatus_50 rfl ?_
            exact jw_iret (pc := 52) dX11_coupleStatus_52 rfl ⟨_, rfl, h⟩
          · replace h := h.2 c
            refine jw_iload_n (pc := 46) (j := 1) dX11_coupleStatus_46 rfl rfl ?_
            refine jw_goto (pc := 47) (tgt := 52) dX11_coupleStatus_47 (by decide) ?_
            exact jw_iret (pc := 52) dX11_coupleStatus_52 rfl ⟨_, rfl, h⟩
        · replace h := h.2 c
          refine jw_iconst (pc := 40) (v := 4) dX11_coupleStatus_40 rfl ?_
          exact jw_iret (pc := 41) dX11_coupleStatus_41 rfl ⟨_, rfl, h⟩
    · replace h := h.2 c
      refine jw_iconst (pc := 14) (v := 3) dX11_coupleStatus_14 rfl ?_
      exact jw_iret (pc := 15) dX11_coupleStatus_15 rfl ⟨_, rfl, h⟩
set_option maxRecDepth 20000 in
theorem b_X11_keptStatus {x : jX} {d : Nat} {M : jM} {P : jM → Int32 → Prop} {a1 : Int32} 
    (h : JC x jtbC mX5_hasSet d [.ref (x.2.2.2 30), .int a1] M (jZ fun M1 b1 => (b1 = true → JC x jtbC mX11_canKeep d [.ref (x.2.2.2 0), .int a1] M1 (jZ fun M2 b2 => (b2 = false → P M2 (9 : Int32)) ∧ (b2 = true → P M2 (0 : Int32)))) ∧ (b1 = false → P M1 (2 : Int32)))) :
    JC x jtbC mX11_keptStatus (d + 1) [.ref (x.2.2.2 0), .int a1] M (jI P) := by
  refine JC.of rfl (Nat.le_of_ble_eq_true rfl) ?_
  refine jw_ls (ls' := [(0, .ref (x.2.2.2 0)), (1, .int a1)]) rfl ?_
  refine jw_aload_n (pc := 0) (j := 0) dX11_keptStatus_0 rfl rfl ?_
  refine jw_getR (pc := 1) (r := 29) dX11_keptStatus_1 sC_0 fl_X11_36 (by decide) rfl rfl ?_
  refine jw_getR (pc := 4) (r := 30) dX11_keptStatus_4 sC_29 fl_X11_157 (by decide) rfl rfl ?_
  refine jw_iload_n (pc := 7) (j := 1) dX11_keptStatus_7 rfl rfl ?_
  refine jw_callV (pc := 8) (m2 := mX5_hasSet) (As := [.int a1]) (st := []) dX11_keptStatus_8 sC_30 (by decide) rfl rfl gm_X5_hasSet ml_X11_259 rfl (Nat.le_of_ble_eq_true rfl) (JC.mono h ?_)
  clear h
  rintro M1 _ ⟨b1, rfl, h⟩
  refine jw_st (st' := [.int (jb b1)]) rfl ?_
  refine jw_if_ne (pc := 11) (tgt := 16) dX11_keptStatus_11 (by decide) (fun c => ?_) (fun c => ?_)
  · replace h := h.1 (jb_ne c)
    refine jw_aload_n (pc := 16) (j := 0) dX11_keptStatus_16 rfl rfl ?_
    refine jw_iload_n (pc := 17) (j := 1) dX11_keptStatus_17 rfl rfl ?_
    refine jw_callV (pc := 18) (m2 := mX11_canKeep) (As := [.int a1]) (st := []) dX11_keptStatus_18 sC_0 (by decide) rfl rfl gm_X11_canKeep ml_X11_269 rfl (Nat.le_of_ble_eq_true rfl) (JC.mono h ?_)
    clear h
    rintro M2 _ ⟨b2, rfl, h⟩
    refine jw_st (st' := [.int (jb b2)]) rfl ?_
    refine jw_if_eq (pc := 21) (tgt := 28) dX11_keptStatus_21 (by decide) (fun c => ?_) (fun c => ?_)
    · replace h := h.1 ((jb_0 _).mp c)
      refine jw_bipush (pc := 28) (v := 9) dX11_keptStatus_28 rfl ?_
      exact jw_iret (pc := 30) dX11_keptStatus_30 rfl ⟨_, rfl, h⟩
    · replace h := h.2 (jb_ne c)
      refine jw_iconst (pc := 24) (v := 0) dX11_keptStatus_24 rfl ?_
      refine jw_goto (pc := 25) (tgt := 30) dX11_keptStatus_25 (by decide) ?_
      exact jw_iret (pc := 30) dX11_keptStatus_30 rfl ⟨_, rfl, h⟩
  · replace h := h.2 ((jb_0 _).mp c)
    refine jw_iconst (pc := 14) (v := 2) dX11_keptStatus_14 rfl ?_
    exact jw_iret (pc := 15) dX11_keptStatus_15 rfl ⟨_, rfl, h⟩
set_option maxRecDepth 20000 in
theorem b_X11_canKeep {x : jX} {d : Nat} {M : jM} {P : jM → Bool → Prop} {a1 : Int32} 
    (h : JC x jtbC mX8_wantPromises d [.ref (x.2.2.2 49), .ref (x.2.2.2 30), .int a1] M (jV fun M1 => JC x jtbC mX8_canBeKept d [.ref (x.2.2.2 49), .ref (x.2.2.2 30)] M1 (jZ fun M2 b1 => P M2 b1))) :
    JC x jtbC mX11_canKeep (d + 1) [.ref (x.2.2.2 0), .int a1] M (jZ P) := by
  refine JC.of rfl (Nat.le_of_ble_eq_true rfl) ?_
  refine jw_ls (ls' := [(0, .ref (x.2.2.2 0)), (1, .int a1)]) rfl ?_
  refine jw_aload_n (pc := 0) (j := 0) dX11_canKeep_0 rfl rfl ?_
  refine jw_getR (pc := 1) (r := 49) dX11_canKeep_1 sC_0 fl_X11_47 (by decide) rfl rfl ?_
  refine jw_aload_n (pc := 4) (j := 0) dX11_canKeep_4 rfl rfl ?_
  refine jw_getR (pc := 5) (r := 29) dX11_canKeep_5 sC_0 fl_X11_36 (by decide) rfl rfl ?_
  refine jw_getR (pc := 8) (r := 30) dX11_canKeep_8 sC_29 fl_X11_157 (by decide) rfl rfl ?_
  refine jw_iload_n (pc := 11) (j := 1) dX11_canKeep_11 rfl rfl ?_
  refine jw_callV (pc := 12) (m2 := mX8_wantPromises) (As := [.ref (x.2.2.2 30), .int a1]) (st := []) dX11_canKeep_12 sC_49 (by decide) rfl rfl gm_X8_wantPromises ml_X11_262 rfl (Nat.le_of_ble_eq_true rfl) (JC.mono h ?_)
  clear h
  rintro M1 _ ⟨rfl, h⟩
  refine jw_st (st' := []) rfl ?_
  refine jw_aload_n (pc := 15) (j := 0) dX11_canKeep_15 rfl rfl ?_
  refine jw_getR (pc := 16) (r := 49) dX11_canKeep_16 sC_0 fl_X11_47 (by decide) rfl rfl ?_
  refine jw_aload_n (pc := 19) (j := 0) dX11_canKeep_19 rfl rfl ?_
  refine jw_getR (pc := 20) (r := 29) dX11_canKeep_20 sC_0 fl_X11_36 (by decide) rfl rfl ?_
  refine jw_getR (pc := 23) (r := 30) dX11_canKeep_23 sC_29 fl_X11_157 (by decide) rfl rfl ?_
  refine jw_callV (pc := 26) (m2 := mX8_canBeKept) (As := [.ref (x.2.2.2 30)]) (st := []) dX11_canKeep_26 sC_49 (by decide) rfl rfl gm_X8_canBeKept ml_X11_315 rfl (Nat.le_of_ble_eq_true rfl) (JC.mono h ?_)
  clear h
  rintro M2 _ ⟨b1, rfl, h⟩
  refine jw_st (st' := [.int (jb b1)]) rfl ?_
  exact jw_zret (pc := 29) dX11_canKeep_29 rfl (jb_01 _) ⟨_, rfl, h⟩
