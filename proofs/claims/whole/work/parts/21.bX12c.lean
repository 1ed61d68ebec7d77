set_option maxRecDepth 20000 in
theorem b_X12_instead {x : jX} {d : Nat} {M : jM} {P : jM → Int32 → Prop} {a1 : Int32} 
    (h : ∀ M1, M1 = jrI M 0 (upd (M.1 0) 1 (0 : Int32)) → ∀ M2, M2 = jrI M1 0 (upd (M1.1 0) 0 (0 : Int32)) → JC x jtbM mX12_isCell d [.ref (x.2.2.2 0), .int a1] M2 (jZ fun M3 b1 => (b1 = true → JC x jtbM mX12_askAsSeen d [.ref (x.2.2.2 0)] M3 (jV fun M4 => JC x jtbM mX12_tellCaps d [.ref (x.2.2.2 0)] M4 (jV fun M5 => ∃ j1, j1 < 25 ∧ a1 = nI j1 ∧ (∃ j2, j2 < 2060 ∧ (28 : Int32) + a1 = nI j2 ∧ (((M5.1 5 j2) ≤ (M5.1 9 j1) → ∀ M6, M6 = jrI M5 9 (upd (M5.1 9) j1 (M5.1 5 j2)) → JC x jtbM mX12_canKeep d [.ref (x.2.2.2 0)] M6 (jZ fun M7 b2 => (b2 = false → JC x jtbM mX12_refuse d [.ref (x.2.2.2 0), .int (9 : Int32)] M7 (jI fun M8 r1 => P M8 r1)) ∧ (b2 = true → JC x jtbM mX12_cheapestCost d [.ref (x.2.2.2 0)] M7 (jI fun M9 r2 => P M9 r2)))) ∧ (¬ (M5.1 5 j2) ≤ (M5.1 9 j1) → JC x jtbM mX12_refuse d [.ref (x.2.2.2 0), .int (9 : Int32)] M5 (jI fun M10 r3 => P M10 r3))))))) ∧ (b1 = false → JC x jtbM mX12_refuse d [.ref (x.2.2.2 0), .int (2 : Int32)] M3 (jI fun M11 r4 => P M11 r4)))) :
    JC x jtbM mX12_instead (d + 1) [.ref (x.2.2.2 0), .int a1] M (jI P) := by
  refine JC.of rfl (Nat.le_of_ble_eq_true rfl) ?_
  refine jw_ls (ls' := [(0, .ref (x.2.2.2 0)), (1, .int a1)]) rfl ?_
  refine jw_aload_n (pc := 0) (j := 0) dX12_instead_0 rfl rfl ?_
  refine jw_iconst (pc := 1) (v := 0) dX12_instead_1 rfl ?_
  refine jw_putI (pc := 2) dX12_instead_2 sM_0 fl_X12_81 fw_12_1 (by decide) rfl ?_
  replace h := h _ rfl
  generalize jrI M 0 (upd (M.1 0) 1 (0 : Int32)) = M1 at h ⊢
  refine jw_aload_n (pc := 5) (j := 0) dX12_instead_5 rfl rfl ?_
  refine jw_iconst (pc := 6) (v := 0) dX12_instead_6 rfl ?_
  refine jw_putI (pc := 7) dX12_instead_7 sM_0 fl_X12_84 fw_12_0 (by decide) rfl ?_
  replace h := h _ rfl
  generalize jrI M1 0 (upd (M1.1 0) 0 (0 : Int32)) = M2 at h ⊢
  refine jw_aload_n (pc := 10) (j := 0) dX12_instead_10 rfl rfl ?_
  refine jw_iload_n (pc := 11) (j := 1) dX12_instead_11 rfl rfl ?_
  refine jw_callV (pc := 12) (m2 := mX12_isCell) (As := [.int a1]) (st := []) dX12_instead_12 sM_0 (by decide) rfl rfl gm_X12_isCell ml_X12_319 rfl (Nat.le_of_ble_eq_true rfl) (JC.mono h ?_)
  clear h
  rintro M3 _ ⟨b1, rfl, h⟩
  refine jw_st (st' := [.int (jb b1)]) rfl ?_
  refine jw_if_ne (pc := 15) (tgt := 24) dX12_instead_15 (by decide) (fun c => ?_) (fun c => ?_)
  · replace h := h.1 (jb_ne c)
    refine jw_aload_n (pc := 24) (j := 0) dX12_instead_24 rfl rfl ?_
    refine jw_callV (pc := 25) (m2 := mX12_askAsSeen) (As := []) (st := []) dX12_instead_25 sM_0 (by decide) rfl rfl gm_X12_askAsSeen ml_X12_415 rfl (Nat.le_of_ble_eq_true rfl) (JC.mono h ?_)
    clear h
    rintro M4 _ ⟨rfl, h⟩
    refine jw_st (st' := []) rfl ?_
    refine jw_aload_n (pc := 28) (j := 0) dX12_instead_28 rfl rfl ?_
    refine jw_callV (pc := 29) (m2 := mX12_tellCaps) (As := []) (st := []) dX12_instead_29 sM_0 (by decide) rfl rfl gm_X12_tellCaps ml_X12_351 rfl (Nat.le_of_ble_eq_true rfl) (JC.mono h ?_)
    clear h
    rintro M5 _ ⟨rfl, h⟩
    refine jw_st (st' := []) rfl ?_
    refine jw_aload_n (pc := 32) (j := 0) dX12_instead_32 rfl rfl ?_
    refine jw_getR (pc := 33) (r := 9) dX12_instead_33 sM_0 fl_X12_48 (by decide) rfl rfl ?_
    refine jw_iload_n (pc := 36) (j := 1) dX12_instead_36 rfl rfl ?_
    obtain ⟨j1, hj1, ej1, h⟩ := h
    refine jw_iald (pc := 37) (j := j1) dX12_instead_37 sM_9 hj1 ej1 (by decide) ?_
    refine jw_aload_n (pc := 38) (j := 0) dX12_instead_38 rfl rfl ?_
    refine jw_getR (pc := 39) (r := 5) dX12_instead_39 sM_0 fl_X12_35 (by decide) rfl rfl ?_
    refine jw_bipush (pc := 42) (v := 28) dX12_instead_42 rfl ?_
    refine jw_iload_n (pc := 44) (j := 1) dX12_instead_44 rfl rfl ?_
    refine jw_iadd (pc := 45) dX12_instead_45 ?_
    obtain ⟨j2, hj2, ej2, h⟩ := h
    refine jw_iald (pc := 46) (j := j2) dX12_instead_46 sM_5 hj2 ej2 (by decide) ?_
    refine jw_icmp_ge (pc := 47) (tgt := 57) dX12_instead_47 (by decide) (fun c => ?_) (fun c => ?_)
    · replace h := h.1 c
      refine jw_aload_n (pc := 57) (j := 0) dX12_instead_57 rfl rfl ?_
      refine jw_getR (pc := 58) (r := 9) dX12_instead_58 sM_0 fl_X12_48 (by decide) rfl rfl ?_
      refine jw_iload_n (pc := 61) (j := 1) dX12_instead_61 rfl rfl ?_
      refine jw_aload_n (pc := 62) (j := 0) dX12_instead_62 rfl rfl ?_
      refine jw_getR (pc := 63) (r := 5) dX12_instead_63 sM_0 fl_X12_35 (by decide) rfl rfl ?_
      refine jw_bipush (pc := 66) (v := 28) dX12_instead_66 rfl ?_
      refine jw_iload_n (pc := 68) (j := 1) dX12_instead_68 rfl rfl ?_
      refine jw_iadd (pc := 69) dX12_instead_69 ?_
      refine jw_iald (pc := 70) (j := j2) dX12_instead_70 sM_5 hj2 ej2 (by decide) ?_
      refine jw_iast (pc := 71) (j := j1) dX12_instead_71 sM_9 hj1 ej1 (by decide) ?_
      replace h := h _ rfl
      generalize jrI M5 9 (upd (M5.1 9) j1 (M5.1 5 j2)) = M6 at h ⊢
      refine jw_aload_n (pc := 72) (j := 0) dX12_instead_72 rfl rfl ?_
      refine jw_callV (pc := 73) (m2 := mX12_canKeep) (As := []) (st := []) dX12_instead_73 sM_0 (by decide) rfl rfl gm_X12_canKeep ml_X12_375 rfl (Nat.le_of_ble_eq_true rfl) (JC.mono h ?_)
      clear h
      rintro M7 _ ⟨b2, rfl, h⟩
      refine jw_st (st' := [.int (jb b2)]) rfl ?_
      refine jw_if_eq (pc := 76) (tgt := 86) dX12_instead_76 (by decide) (fun c => ?_) (fun c => ?_)
      · replace h := h.1 ((jb_0 _).mp c)
        refine jw_aload_n (pc := 86) (j := 0) dX12_instead_86 rfl rfl ?_
        refine jw_bipush (pc := 87) (v := 9) dX12_instead_87 rfl ?_
        refine jw_callV (pc := 89) (m2 := mX12_refuse) (As := [.int (9 : Int32)]) (st := []) dX12_instead_89 sM_0 (by decide) rfl rfl gm_X12_refuse ml_X12_316 rfl (Nat.le_of_ble_eq_true rfl) (JC.mono h ?_)
        clear h
        rintro M8 _ ⟨r1, rfl, h⟩
        refine jw_st (st' := [.int r1]) rfl ?_
        exact jw_iret (pc := 92) dX12_instead_92 rfl ⟨_, rfl, h⟩
      · replace h := h.2 (jb_ne c)
        refine jw_aload_n (pc := 79) (j := 0) dX12_instead_79 rfl rfl ?_
        refine jw_callV (pc := 80) (m2 := mX12_cheapestCost) (As := []) (st := []) dX12_instead_80 sM_0 (by decide) rfl rfl gm_X12_cheapestCost ml_X12_403 rfl (Nat.le_of_ble_eq_true rfl) (JC.mono h ?_)
        clear h
        rintro M9 _ ⟨r2, rfl, h⟩
        refine jw_st (st' := [.int r2]) rfl ?_
        refine jw_goto (pc := 83) (tgt := 92) dX12_instead_83 (by decide) ?_
        exact jw_iret (pc := 92) dX12_instead_92 rfl ⟨_, rfl, h⟩
    · replace h := h.2 c
      refine jw_aload_n (pc := 50) (j := 0) dX12_instead_50 rfl rfl ?_
      refine jw_bipush (pc := 51) (v := 9) dX12_instead_51 rfl ?_
      refine jw_callV (pc := 53) (m2 := mX12_refuse) (As := [.int (9 : Int32)]) (st := []) dX12_instead_53 sM_0 (by decide) rfl rfl gm_X12_refuse ml_X12_316 rfl (Nat.le_of_ble_eq_true rfl) (JC.mono h ?_)
      clear h
      rintro M10 _ ⟨r3, rfl, h⟩
      refine jw_st (st' := [.int r3]) rfl ?_
      exact jw_iret (pc := 56) dX12_instead_56 rfl ⟨_, rfl, h⟩
  · replace h := h.2 ((jb_0 _).mp c)
    refine jw_aload_n (pc := 18) (j := 0) dX12_instead_18 rfl rfl ?_
    refine jw_iconst (pc := 19) (v := 2) dX12_instead_19 rfl ?_
    refine jw_callV (pc := 20) (m2 := mX12_refuse) (As := [.int (2 : Int32)]) (st := []) dX12_instead_20 sM_0 (by decide) rfl rfl gm_X12_refuse ml_X12_316 rfl (Nat.le_of_ble_eq_true rfl) (JC.mono h ?_)
    clear h
    rintro M11 _ ⟨r4, rfl, h⟩
    refine jw_st (st' := [.int r4]) rfl ?_
    exact jw_iret (pc := 23) dX12_instead_23 rfl ⟨_, rfl, h⟩
set_option maxRecDepth 20000 in
theorem b_X12_seenIn {x : jX} {d : Nat} {M : jM} {P : jM → Int32 → Prop} {a1 : Int32} {a2 : Int32} {a3 : Int32} {a4 : Int32} 
    (h : JW x jtbM mX12_seenIn (d + 1) (jI P) 6 [(0, .ref (x.2.2.2 0)), (1, .int a1), (2, .int a2), (3, .int a3), (4, .int a4), (5, .int (0 : Int32)), (6, .int (0 : Int32))] [] M) :
    JC x jtbM mX12_seenIn (d + 1) [.ref (x.2.2.2 0), .int a1, .int a2, .int a3, .int a4] M (jI P) := by
  refine JC.of rfl (Nat.le_of_ble_eq_true rfl) ?_
  refine jw_ls (ls' := [(0, .ref (x.2.2.2 0)), (1, .int a1), (2, .int a2), (3, .int a3), (4, .int a4)]) rfl ?_
  refine jw_iconst (pc := 0) (v := 0) dX12_seenIn_0 rfl ?_
  refine jw_istore (pc := 1) (ls' := [(5, .int (0 : Int32)), (0, .ref (x.2.2.2 0)), (1, .int a1), (2, .int a2), (3, .int a3), (4, .int a4)]) dX12_seenIn_1 (by decide) rfl ?_
  refine jw_iconst (pc := 3) (v := 0) dX12_seenIn_3 rfl ?_
  refine jw_istore (pc := 4) (ls' := [(6, .int (0 : Int32)), (5, .int (0 : Int32)), (0, .ref (x.2.2.2 0)), (1, .int a1), (2, .int a2), (3, .int a3), (4, .int a4)]) dX12_seenIn_4 (by decide) rfl ?_
  exact jw_sub [2, 3, 4, 5, 6, 1, 0] rfl h
set_option maxRecDepth 20000 in
theorem b_X12_seenIn_6 {x : jX} {d : Nat} {M : jM} {P : jM → Int32 → Prop} {l1 : Int32} {l2 : Int32} {l3 : Int32} {l4 : Int32} {l5 : Int32} {l6 : Int32} 
    (h : JC x jtbM mX12_cells d [.ref (x.2.2.2 0)] M (jI fun M1 r1 => (r1 ≤ l6 → P M1 l5) ∧ (¬ r1 ≤ l6 → JC x jtbM mX12_stripOf d [.ref (x.2.2.2 0), .int l3, .int l6] M1 (jI fun M2 r2 => (¬ r2 = l4 → JW x jtbM mX12_seenIn (d + 1) (jI P) 6 [(0, .ref (x.2.2.2 0)), (1, .int l1), (2, .int l2), (3, .int l3), (4, .int l4), (5, .int l5), (6, .int (l6 + 1))] [] M2) ∧ (r2 = l4 → JC x jtbM mX12_numberOf d [.ref (x.2.2.2 0), .int l1, .int (l2 + l6)] M2 (jL fun M3 r3 => JC x jtbM mJ9_max_7cf53 d [.int l5, .int r3.toInt32] M3 (jI fun M4 r4 => JW x jtbM mX12_seenIn (d + 1) (jI P) 6 [(0, .ref (x.2.2.2 0)), (1, .int l1), (2, .int l2), (3, .int l3), (4, .int l4), (5, .int r4), (6, .int (l6 + 1))] [] M4))))))) :
    JW x jtbM mX12_seenIn (d + 1) (jI P) 6 [(0, .ref (x.2.2.2 0)), (1, .int l1), (2, .int l2), (3, .int l3), (4, .int l4), (5, .int l5), (6, .int l6)] [] M := by
  refine jw_iload (pc := 6) (j := 6) dX12_seenIn_6 rfl ?_
  refine jw_aload_n (pc := 8) (j := 0) dX12_seenIn_8 rfl rfl ?_
  refine jw_callV (pc := 9) (m2 := mX12_cells) (As := []) (st := [.int l6]) dX12_seenIn_9 sM_0 (by decide) rfl rfl gm_X12_cells ml_X12_305 rfl (Nat.le_of_ble_eq_true rfl) (JC.mono h ?_)
  clear h
  rintro M1 _ ⟨r1, rfl, h⟩
  refine jw_st (st' := [.int r1, .int l6]) rfl ?_
  refine jw_icmp_ge (pc := 12) (tgt := 50) dX12_seenIn_12 (by decide) (fun c => ?_) (fun c => ?_)
  · replace h := h.1 c
    refine jw_iload (pc := 50) (j := 5) dX12_seenIn_50 rfl ?_
    exact jw_iret (pc := 52) dX12_seenIn_52 rfl ⟨_, rfl, h⟩
  · replace h := h.2 c
    refine jw_aload_n (pc := 15) (j := 0) dX12_seenIn_15 rfl rfl ?_
    refine jw_iload_n (pc := 16) (j := 3) dX12_seenIn_16 rfl rfl ?_
    refine jw_iload (pc := 17) (j := 6) dX12_seenIn_17 rfl ?_
    refine jw_callV (pc := 19) (m2 := mX12_stripOf) (As := [.int l3, .int l6]) (st := []) dX12_seenIn_19 sM_0 (by decide) rfl rfl gm_X12_stripOf ml_X12_327 rfl (Nat.le_of_ble_eq_true rfl) (JC.mono h ?_)
    clear h
    rintro M2 _ ⟨r2, rfl, h⟩
    refine jw_st (st' := [.int r2]) rfl ?_
    refine jw_iload (pc := 22) (j := 4) dX12_seenIn_22 rfl ?_
    refine jw_icmp_ne (pc := 24) (tgt := 44) dX12_seenIn_24 (by decide) (fun c => ?_) (fun c => ?_)
    · replace h := h.1 c
      refine jw_iinc (pc := 44) (j := 6) (u := l6 + 1) (ls' := [(6, .int (l6 + 1)), (0, .ref (x.2.2.2 0)), (1, .int l1), (2, .int l2), (3, .int l3), (4, .int l4), (5, .int l5)]) dX12_seenIn_44 rfl rfl (by decide) rfl ?_
      refine jw_goto (pc := 47) (tgt := 6) dX12_seenIn_47 (by decide) ?_
      exact jw_sub [1, 2, 3, 4, 5, 6, 0] rfl h
    · replace h := h.2 c
      refine jw_iload (pc := 27) (j := 5) dX12_seenIn_27 rfl ?_
      refine jw_aload_n (pc := 29) (j := 0) dX12_seenIn_29 rfl rfl ?_
      refine jw_iload_n (pc := 30) (j := 1) dX12_seenIn_30 rfl rfl ?_
      refine jw_iload_n (pc := 31) (j := 2) dX12_seenIn_31 rfl rfl ?_
      refine jw_iload (pc := 32) (j := 6) dX12_seenIn_32 rfl ?_
      refine jw_iadd (pc := 34) dX12_seenIn_34 ?_
      refine jw_callV (pc := 35) (m2 := mX12_numberOf) (As := [.int l1, .int (l2 + l6)]) (st := [.int l5]) dX12_seenIn_35 sM_0 (by decide) rfl rfl gm_X12_numberOf ml_X12_332 rfl (Nat.le_of_ble_eq_true rfl) (JC.mono h ?_)
      clear h
      rintro M3 _ ⟨r3, rfl, h⟩
      refine jw_st (st' := [.long r3, .int l5]) rfl ?_
      refine jw_l2i (pc := 38) dX12_seenIn_38 ?_
      refine jw_callS (pc := 39) (m2 := mJ9_max_7cf53) (As := [.int l5, .int r3.toInt32]) (st := []) dX12_seenIn_39 gm_J9_max_7cf53 ml_X12_342 rfl (Nat.le_of_ble_eq_true rfl) (JC.mono h ?_)
      clear h
      rintro M4 _ ⟨r4, rfl, h⟩
      refine jw_st (st' := [.int r4]) rfl ?_
      refine jw_istore (pc := 42) (ls' := [(5, .int r4), (0, .ref (x.2.2.2 0)), (1, .int l1), (2, .int l2), (3, .int l3), (4, .int l4), (6, .int l6)]) dX12_seenIn_42 (by decide) rfl ?_
      refine jw_iinc (pc := 44) (j := 6) (u := l6 + 1) (ls' := [(6, .int (l6 + 1)), (5, .int r4), (0, .ref (x.2.2.2 0)), (1, .int l1), (2, .int l2), (3, .int l3), (4, .int l4)]) dX12_seenIn_44 rfl rfl (by decide) rfl ?_
      refine jw_goto (pc := 47) (tgt := 6) dX12_seenIn_47 (by decide) ?_
      exact jw_sub [2, 3, 4, 5, 6, 1, 0] rfl h
set_option maxRecDepth 20000 in
theorem b_X12_apart {x : jX} {d : Nat} {M : jM} {P : jM → Int32 → Prop} {a1 : Int32} {a2 : Int32} {a3 : Int32} 
    (h : ∀ M1, M1 = jrI M 0 (upd (M.1 0) 1 (0 : Int32)) → ∀ M2, M2 = jrI M1 0 (upd (M1.1 0) 0 (0 : Int32)) → JC x jtbM mX12_isTray d [.ref (x.2.2.2 0), .int a1] M2 (jZ fun M3 b1 => (b1 = false → JC x jtbM mX12_refuse d [.ref (x.2.2.2 0), .int (1 : Int32)] M3 (jI fun M4 r1 => P M4 r1)) ∧ (b1 = true → JC x jtbM mX12_isTray d [.ref (x.2.2.2 0), .int a2] M3 (jZ fun M5 b2 => (b2 = true → JC x jtbM mX12_isVillage d [.ref (x.2.2.2 0), .int a3] M5 (jZ fun M6 b3 => (b3 = true → ∃ j1, j1 < 4 ∧ a1 = nI j1 ∧ (((M6.1 2 j1) < 0 → JC x jtbM mX12_refuse d [.ref (x.2.2.2 0), .int (3 : Int32)] M6 (jI fun M7 r2 => P M7 r2)) ∧ (¬ (M6.1 2 j1) < 0 → ∃ j2, j2 < 4 ∧ a2 = nI j2 ∧ ((0 ≤ (M6.1 2 j2) → JC x jtbM mX12_cells d [.ref (x.2.2.2 0)] M6 (jI fun M8 r3 => JC x jtbM mX12_wrongRow d [.ref (x.2.2.2 0), .int a1, .int r3] M8 (jI fun M9 r4 => JC x jtbM mX12_cells d [.ref (x.2.2.2 0)] M9 (jI fun M10 r5 => JC x jtbM mX12_wrongRow d [.ref (x.2.2.2 0), .int a2, .int r5] M10 (jI fun M11 r6 => (r4 = (4 : Int32) → JC x jtbM mX12_refuse d [.ref (x.2.2.2 0), .int (4 : Int32)] M11 (jI fun M12 r7 => P M12 r7)) ∧ (¬ r4 = (4 : Int32) → (¬ r6 = (4 : Int32) → (0 < r4 → JC x jtbM mX12_refuse d [.ref (x.2.2.2 0), .int (5 : Int32)] M11 (jI fun M13 r8 => P M13 r8)) ∧ (¬ 0 < r4 → (r6 ≤ 0 → JW x jtbM mX12_apart (d + 1) (jI P) 129 [(0, .ref (x.2.2.2 0)), (1, .int a1), (2, .int a2), (3, .int a3), (6, .int (0 : Int32))] [] M11) ∧ (¬ r6 ≤ 0 → JC x jtbM mX12_refuse d [.ref (x.2.2.2 0), .int (5 : Int32)] M11 (jI fun M14 r9 => P M14 r9)))) ∧ (r6 = (4 : Int32) → JC x jtbM mX12_refuse d [.ref (x.2.2.2 0), .int (4 : Int32)] M11 (jI fun M15 r10 => P M15 r10)))))))) ∧ (¬ 0 ≤ (M6.1 2 j2) → JC x jtbM mX12_refuse d [.ref (x.2.2.2 0), .int (3 : Int32)] M6 (jI fun M16 r11 => P M16 r11)))))) ∧ (b3 = false → JC x jtbM mX12_refuse d [.ref (x.2.2.2 0), .int (2 : Int32)] M6 (jI fun M17 r12 => P M17 r12)))) ∧ (b2 = false → JC x jtbM mX12_refuse d [.ref (x.2.2.2 0), .int (1 : Int32)] M5 (jI fun M18 r13 => P M18 r13)))))) :
    JC x jtbM mX12_apart (d + 1) [.ref (x.2.2.2 0), .int a1, .int a2, .int a3] M (jI P) := by
  refine JC.of rfl (Nat.le_of_ble_eq_true rfl) ?_
  refine jw_ls (ls' := [(0, .ref (x.2.2.2 0)), (1, .int a1), (2, .int a2), (3, .int a3)]) rfl ?_
  refine jw_aload_n (pc := 0) (j := 0) dX12_apart_0 rfl rfl ?_
  refine jw_iconst (pc := 1) (v := 0) dX12_apart_1 rfl ?_
  refine jw_putI (pc := 2) dX12_apart_2 sM_0 fl_X12_81 fw_12_1 (by decide) rfl ?_
  replace h := h _ rfl
  generalize jrI M 0 (upd (M.1 0) 1 (0 : Int32)) = M1 at h ⊢
  refine jw_aload_n (pc := 5) (j := 0) dX12_apart_5 rfl rfl ?_
  refine jw_iconst (pc := 6) (v := 0) dX12_apart_6 rfl ?_
  refine jw_putI (pc := 7) dX12_apart_7 sM_0 fl_X12_84 fw_12_0 (by decide) rfl ?_
  replace h := h _ rfl
  generalize jrI M1 0 (upd (M1.1 0) 0 (0 : Int32)) = M2 at h ⊢
  refine jw_aload_n (pc := 10) (j := 0) dX12_apart_10 rfl rfl ?_
  refine jw_iload_n (pc := 11) (j := 1) dX12_apart_11 rfl rfl ?_
  refine jw_callV (pc := 12) (m2 := mX12_isTray) (As := [.int a1]) (st := []) dX12_apart_12 sM_0 (by decide) rfl rfl gm_X12_isTray ml_X12_336 rfl (Nat.le_of_ble_eq_true rfl) (JC.mono h ?_)
  clear h
  rintro M3 _ ⟨b1, rfl, h⟩
  refine jw_st (st' := [.int (jb b1)]) rfl ?_
  refine jw_if_eq (pc := 15) (tgt := 26) dX12_apart_15 (by decide) (fun c => ?_) (fun c => ?_)
  · replace h := h.1 ((jb_0 _).mp c)
    refine jw_aload_n (pc := 26) (j := 0) dX12_apart_26 rfl rfl ?_
    refine jw_iconst (pc := 27) (v := 1) dX12_apart_27 rfl ?_
    refine jw_callV (pc := 28) (m2 := mX12_refuse) (As := [.int (1 : Int32)]) (st := []) dX12_apart_28 sM_0 (by decide) rfl rfl gm_X12_refuse ml_X12_316 rfl (Nat.le_of_ble_eq_true rfl) (JC.mono h ?_)
    clear h
    rintro M4 _ ⟨r1, rfl, h⟩
    refine jw_st (st' := [.int r1]) rfl ?_
    exact jw_iret (pc := 31) dX12_apart_31 rfl ⟨_, rfl, h⟩
  · replace h := h.2 (jb_ne c)
    refine jw_aload_n (pc := 18) (j := 0) dX12_apart_18 rfl rfl ?_
    refine jw_iload_n (pc := 19) (j := 2) dX12_apart_19 rfl rfl ?_
    refine jw_callV (pc := 20) (m2 := mX12_isTray) (As := [.int a2]) (st := []) dX12_apart_20 sM_0 (by decide) rfl rfl gm_X12_isTray ml_X12_336 rfl (Nat.le_of_ble_eq_true rfl) (JC.mono h ?_)
    clear h
    rintro M5 _ ⟨b2, rfl, h⟩
    refine jw_st (st' := [.int (jb b2)]) rfl ?_
    refine jw_if_ne (pc := 23) (tgt := 32) dX12_apart_23 (by decide) (fun c => ?_) (fun c => ?_)
    · replace h := h.1 (jb_ne c)
      refine jw_aload_n (pc := 32) (j := 0) dX12_apart_32 rfl rfl ?_
      refine jw_iload_n (pc := 33) (j := 3) dX12_apart_33 rfl rfl ?_
      refine jw_callV (pc := 34) (m2 := mX12_isVillage) (As := [.int a3]) (st := []) dX12_apart_34 sM_0 (by decide) rfl rfl gm_X12_isVillage ml_X12_308 rfl (Nat.le_of_ble_eq_true rfl) (JC.mono h ?_)
      clear h
      rintro M6 _ ⟨b3, rfl, h⟩
      refine jw_st (st' := [.int (jb b3)]) rfl ?_
      refine jw_if_ne (pc := 37) (tgt := 46) dX12_apart_37 (by decide) (fun c => ?_) (fun c => ?_)
      · replace h := h.1 (jb_ne c)
        refine jw_aload_n (pc := 46) (j := 0) dX12_apart_46 rfl rfl ?_
        refine jw_getR (pc := 47) (r := 2) dX12_apart_47 sM_0 fl_X12_17 (by decide) rfl rfl ?_
        refine jw_iload_n (pc := 50) (j := 1) dX12_apart_50 rfl rfl ?_
        obtain ⟨j1, hj1, ej1, h⟩ := h
        refine jw_iald (pc := 51) (j := j1) dX12_apart_51 sM_2 hj1 ej1 (by decide) ?_
        refine jw_if_lt (pc := 52) (tgt := 64) dX12_apart_52 (by decide) (fun c => ?_) (fun c => ?_)
        · replace h := h.1 c
          refine jw_aload_n (pc := 64) (j := 0) dX12_apart_64 rfl rfl ?_
          refine jw_iconst (pc := 65) (v := 3) dX12_apart_65 rfl ?_
          refine jw_callV (pc := 66) (m2 := mX12_refuse) (As := [.int (3 : Int32)]) (st := []) dX12_apart_66 sM_0 (by decide) rfl rfl gm_X12_refuse ml_X12_316 rfl (Nat.le_of_ble_eq_true rfl) (JC.mono h ?_)
          clear h
          rintro M7 _ ⟨r2, rfl, h⟩
          refine jw_st (st' := [.int r2]) rfl ?_
          exact jw_iret (pc := 69) dX12_apart_69 rfl ⟨_, rfl, h⟩
        · replace h := h.2 c
          refine jw_aload_n (pc := 55) (j := 0) dX12_apart_55 rfl rfl ?_
          refine jw_getR (pc := 56) (r := 2) dX12_apart_56 sM_0 fl_X12_17 (by decide) rfl rfl ?_
          refine jw_iload_n (pc := 59) (j := 2) dX12_apart_59 rfl rfl ?_
          obtain ⟨j2, hj2, ej2, h⟩ := h
          refine jw_iald (pc := 60) (j := j2) dX12_apart_60 sM_2 hj2 ej2 (by decide) ?_
          refine jw_if_ge (pc := 61) (tgt := 70) dX12_apart_61 (by decide) (fun c => ?_) (fun c => ?_)
          · replace h := h.1 c
            refine jw_aload_n (pc := 70) (j := 0) dX12_apart_70 rfl rfl ?_
            refine jw_iload_n (pc := 71) (j := 1) dX12_apart_71 rfl rfl ?_
            refine jw_aload_n (pc := 72) (j := 0) dX12_apart_72 rfl rfl ?_
            refine jw_callV (pc := 73) (m2 := mX12_cells) (As := []) (st := [.int a1, .ref (x.2.2.2 0)]) dX12_apart_73 sM_0 (by decide) rfl rfl gm_X12_cells ml_X12_305 rfl (Nat.le_of_ble_eq_true rfl) (JC.mono h ?_)
            clear h
            rintro M8 _ ⟨r3, rfl, h⟩
            refine jw_st (st' := [.int r3, .int a1, .ref (x.2.2.2 0)]) rfl ?_
            refine jw_callV (pc := 76) (m2 := mX12_wrongRow) (As := [.int a1, .int r3]) (st := []) dX12_apart_76 sM_0 (by decide) rfl rfl gm_X12_wrongRow ml_X12_339 rfl (Nat.le_of_ble_eq_true rfl) (JC.mono h ?_)
            clear h
            rintro M9 _ ⟨r4, rfl, h⟩
            refine jw_st (st' := [.int r4]) rfl ?_
            refine jw_istore (pc := 79) (ls' := [(4, .int r4), (0, .ref (x.2.2.2 0)), (1, .int a1), (2, .int a2), (3, .int a3)]) dX12_apart_79 (by decide) rfl ?_
            refine jw_aload_n (pc := 81) (j := 1) dX12_apart_81 rfl rfl ?_
            refine jw_iload_n (pc := 82) (j := 3) dX12_apart_82 rfl rfl ?_
            refine jw_aload_n (pc := 83) (j := 1) dX12_apart_83 rfl rfl ?_
            refine jw_callV (pc := 84) (m2 := mX12_cells) (As := []) (st := [.int a2, .ref (x.2.2.2 0)]) dX12_apart_84 sM_0 (by decide) rfl rfl gm_X12_cells ml_X12_305 rfl (Nat.le_of_ble_eq_true rfl) (JC.mono h ?_)
            clear h
            rintro M10 _ ⟨r5, rfl, h⟩
            refine jw_st (st' := [.int r5, .int a2, .ref (x.2.2.2 0)]) rfl ?_
            refine jw_callV (pc := 87) (m2 := mX12_wrongRow) (As := [.int a2, .int r5]) (st := []) dX12_apart_87 sM_0 (by decide) rfl rfl gm_X12_wrongRow ml_X12_339 rfl (Nat.le_of_ble_eq_true rfl) (JC.mono h ?_)
            clear h
            rintro M11 _ ⟨r6, rfl, h⟩
            refine jw_st (st' := [.int r6]) rfl ?_
            refine jw_istore (pc := 90) (ls' := [(5, .int r6), (4, .int r4), (0, .ref (x.2.2.2 0)), (1, .int a1), (2, .int a2), (3, .int a3)]) dX12_apart_90 (by decide) rfl ?_
            refine jw_iload (pc := 92) (j := 1) dX12_apart_92 rfl ?_
            refine jw_iconst (pc := 94) (v := 4) dX12_apart_94 rfl ?_
            refine jw_icmp_eq (pc := 95) (tgt := 104) dX12_apart_95 (by decide) (fun c => ?_) (fun c => ?_)
            · replace h := h.1 c
              refine jw_aload_n (pc := 104) (j := 2) dX12_apart_104 rfl rfl ?_
              refine jw_iconst (pc := 105) (v := 4) dX12_apart_105 rfl ?_
              refine jw_callV (pc := 106) (m2 := mX12_refuse) (As := [.int (4 : Int32)]) (st := []) dX12_apart_106 sM_0 (by decide) rfl rfl gm_X12_refuse ml_X12_316 rfl (Nat.le_of_ble_eq_true rfl) (JC.mono h ?_)
              clear h
              rintro M12 _ ⟨r7, rfl, h⟩
              refine jw_st (st' := [.int r7]) rfl ?_
              exact jw_iret (pc := 109) dX12_apart_109 rfl ⟨_, rfl, h⟩
            · replace h := h.2 c
              refine jw_iload (pc := 98) (j := 0) dX12_apart_98 rfl ?_
              refine jw_iconst (pc := 100) (v := 4) dX12_apart_100 rfl ?_
              refine jw_icmp_ne (pc := 101) (tgt := 110) dX12_apart_101 (by decide) (fun c => ?_) (fun c => ?_)
              · replace h := h.1 c
                refine jw_iload (pc := 110) (j := 1) dX12_apart_110 rfl ?_
                refine jw_if_gt (pc := 112) (tgt := 120) dX12_apart_112 (by decide) (fun c => ?_) (fun c => ?_)
                · replace h := h.1 c
                  refine jw_aload_n (pc := 120) (j := 2) dX12_apart_120 rfl rfl ?_
                  refine jw_iconst (pc := 121) (v := 5) dX12_apart_121 rfl ?_
                  refine jw_callV (pc := 122) (m2 := mX12_refuse) (As := [.int (5 : Int32)]) (st := []) dX12_apart_122 sM_0 (by decide) rfl rfl gm_X12_refuse ml_X12_316 rfl (Nat.le_of_ble_eq_true rfl) (JC.mono h ?_)
                  clear h
                  rintro M13 _ ⟨r8, rfl, h⟩
                  refine jw_st (st' := [.int r8]) rfl ?_
                  exact jw_iret (pc := 125) dX12_apart_125 rfl ⟨_, rfl, h⟩
                · replace h := h.2 c
                  refine jw_iload (pc := 115) (j := 0) dX12_apart_115 rfl ?_
                  refine jw_if_le (pc := 117) (tgt := 126) dX12_apart_117 (by decide) (fun c => ?_) (fun c => ?_)
                  · replace h := h.1 c
                    refine jw_iconst (pc := 126) (v := 0) dX12_apart_126 rfl ?_
                    refine jw_istore (pc := 127) (ls' := [(6, .int (0 : Int32)), (5, .int r6), (4, .int r4), (0, .ref (x.2.2.2 0)), (1, .int a1), (2, .int a2), (3, .int a3)]) dX12_apart_127 (by decide) rfl ?_
                    exact jw_sub [3, 4, 5, 6, 0] rfl h
                  · replace h := h.2 c
                    refine jw_aload_n (pc := 120) (j := 2) dX12_apart_120 rfl rfl ?_
                    refine jw_iconst (pc := 121) (v := 5) dX12_apart_121 rfl ?_
                    refine jw_callV (pc := 122) (m2 := mX12_refuse) (As := [.int (5 : Int32)]) (st := []) dX12_apart_122 sM_0 (by decide) rfl rfl gm_X12_refuse ml_X12_316 rfl (Nat.le_of_ble_eq_true rfl) (JC.mono h ?_)
                    clear h
                    rintro M14 _ ⟨r9, rfl, h⟩
                    refine jw_st (st' := [.int r9]) rfl ?_
                    exact jw_iret (pc := 125) dX12_apart_125 rfl ⟨_, rfl, h⟩
              · replace h := h.2 c
                refine jw_aload_n (pc := 104) (j := 2) dX12_apart_104 rfl rfl ?_
                refine jw_iconst (pc := 105) (v := 4) dX12_apart_105 rfl ?_
                refine jw_callV (pc := 106) (m2 := mX12_refuse) (As := [.int (4 : Int32)]) (st := []) dX12_apart_106 sM_0 (by decide) rfl rfl gm_X12_refuse ml_X12_316 rfl (Nat.le_of_ble_eq_true rfl) (JC.mono h ?_)
                clear h
                rintro M15 _ ⟨r10, rfl, h⟩
                refine jw_st (st' := [.int r10]) rfl ?_
                exact jw_iret (pc := 109) dX12_apart_109 rfl ⟨_, rfl, h⟩
          · replace h := h.2 c
            refine jw_aload_n (pc := 64) (j := 0) dX12_apart_64 rfl rfl ?_
            refine jw_iconst (pc := 65) (v := 3) dX12_apart_65 rfl ?_
            refine jw_callV (pc := 66) (m2 := mX12_refuse) (As := [.int (3 : Int32)]) (st := []) dX12_apart_66 sM_0 (by decide) rfl rfl gm_X12_refuse ml_X12_316 rfl (Nat.le_of_ble_eq_true rfl) (JC.mono h ?_)
            clear h
            rintro M16 _ ⟨r11, rfl, h⟩
            refine jw_st (st' := [.int r11]) rfl ?_
            exact jw_iret (pc := 69) dX12_apart_69 rfl ⟨_, rfl, h⟩
      · replace h := h.2 ((jb_0 _).mp c)
        refine jw_aload_n (pc := 40) (j := 0) dX12_apart_40 rfl rfl ?_
        refine jw_iconst (pc := 41) (v := 2) dX12_apart_41 rfl ?_
        refine jw_callV (pc := 42) (m2 := mX12_refuse) (As := [.int (2 : Int32)]) (st := []) dX12_apart_42 sM_0 (by decide) rfl rfl gm_X12_refuse ml_X12_316 rfl (Nat.le_of_ble_eq_true rfl) (JC.mono h ?_)
        clear h
        rintro M17 _ ⟨r12, rfl, h⟩
        refine jw_st (st' := [.int r12]) rfl ?_
        exact jw_iret (pc := 45) dX12_apart_45 rfl ⟨_, rfl, h⟩
    · replace h := h.2 ((jb_0 _).mp c)
      refine jw_aload_n (pc := 26) (j := 0) dX12_apart_26 rfl rfl ?_
      refine jw_iconst (pc := 27) (v := 1) dX12_apart_27 rfl ?_
      refine jw_callV (pc := 28) (m2 := mX12_refuse) (As := [.int (1 : Int32)]) (st := []) dX12_apart_28 sM_0 (by decide) rfl rfl gm_X12_refuse ml_X12_316 rfl (Nat.le_of_ble_eq_true rfl) (JC.mono h ?_)
      clear h
      rintro M18 _ ⟨r13, rfl, h⟩
      refine jw_st (st' := [.int r13]) rfl ?_
      exact jw_iret (pc := 31) dX12_apart_31 rfl ⟨_, rfl, h⟩
set_option maxRecDepth 20000 in
theorem b_X12_apart_129 {x : jX} {d : Nat} {M : jM} {P : jM → Int32 → Prop} {l1 : Int32} {l2 : Int32} {l3 : Int32} {l6 : Int32} 
    (h : JC x jtbM mX12_strips d [.ref (x.2.2.2 0), .int l3] M (jI fun M1 r1 => (r1 ≤ l6 → JC x jtbM mX12_refuse d [.ref (x.2.2.2 0), .int (8 : Int32)] M1 (jI fun M2 r2 => P M2 r2)) ∧ (¬ r1 ≤ l6 → ∃ j1, j1 < 2060 ∧ (78 : Int32) + l3 = nI j1 ∧ (JC x jtbM mX12_seenIn d [.ref (x.2.2.2 0), .int l1, .int (0 : Int32), .int (M1.1 5 j1), .int l6] M1 (jI fun M3 r3 => JC x jtbM mX12_seenIn d [.ref (x.2.2.2 0), .int l2, .int (0 : Int32), .int (M3.1 5 j1), .int l6] M3 (jI fun M4 r4 => (r3 = r4 → JW x jtbM mX12_apart (d + 1) (jI P) 129 [(0, .ref (x.2.2.2 0)), (1, .int l1), (2, .int l2), (3, .int l3), (6, .int (l6 + 1))] [] M4) ∧ (¬ r3 = r4 → P M4 l6))))))) :
    JW x jtbM mX12_apart (d + 1) (jI P) 129 [(0, .ref (x.2.2.2 0)), (1, .int l1), (2, .int l2), (3, .int l3), (6, .int l6)] [] M := by
  refine jw_iload (pc := 129) (j := 4) dX12_apart_129 rfl ?_
  refine jw_aload_n (pc := 131) (j := 0) dX12_apart_131 rfl rfl ?_
  refine jw_iload_n (pc := 132) (j := 3) dX12_apart_132 rfl rfl ?_
  refine jw_callV (pc := 133) (m2 := mX12_strips) (As := [.int l3]) (st := [.int l6]) dX12_apart_133 sM_0 (by decide) rfl rfl gm_X12_strips ml_X12_311 rfl (Nat.le_of_ble_eq_true rfl) (JC.mono h ?_)
  clear h
  rintro M1 _ ⟨r1, rfl, h⟩
  refine jw_st (st' := [.int r1, .int l6]) rfl ?_
  refine jw_icmp_ge (pc := 136) (tgt := 185) dX12_apart_136 (by decide) (fun c => ?_) (fun c => ?_)
  · replace h := h.1 c
    refine jw_aload_n (pc := 185) (j := 0) dX12_apart_185 rfl rfl ?_
    refine jw_bipush (pc := 186) (v := 8) dX12_apart_186 rfl ?_
    refine jw_callV (pc := 188) (m2 := mX12_refuse) (As := [.int (8 : Int32)]) (st := []) dX12_apart_188 sM_0 (by decide) rfl rfl gm_X12_refuse ml_X12_316 rfl (Nat.le_of_ble_eq_true rfl) (JC.mono h ?_)
    clear h
    rintro M2 _ ⟨r2, rfl, h⟩
    refine jw_st (st' := [.int r2]) rfl ?_
    exact jw_iret (pc := 191) dX12_apart_191 rfl ⟨_, rfl, h⟩
  · replace h := h.2 c
    refine jw_aload_n (pc := 139) (j := 0) dX12_apart_139 rfl rfl ?_
    refine jw_iload_n (pc := 140) (j := 1) dX12_apart_140 rfl rfl ?_
    refine jw_iconst (pc := 141) (v := 0) dX12_apart_141 rfl ?_
    refine jw_aload_n (pc := 142) (j := 0) dX12_apart_142 rfl rfl ?_
    refine jw_getR (pc := 143) (r := 5) dX12_apart_143 sM_0 fl_X12_35 (by decide) rfl rfl ?_
    refine jw_bipush (pc := 146) (v := 78) dX12_apart_146 rfl ?_
    refine jw_iload_n (pc := 148) (j := 3) dX12_apart_148 rfl rfl ?_
    refine jw_iadd (pc := 149) dX12_apart_149 ?_
    obtain ⟨j1, hj1, ej1, h⟩ := h
    refine jw_iald (pc := 150) (j := j1) dX12_apart_150 sM_5 hj1 ej1 (by decide) ?_
    refine jw_iload (pc := 151) (j := 4) dX12_apart_151 rfl ?_
    refine jw_callV (pc := 153) (m2 := mX12_seenIn) (As := [.int l1, .int (0 : Int32), .int (M1.1 5 j1), .int l6]) (st := []) dX12_apart_153 sM_0 (by decide) rfl rfl gm_X12_seenIn ml_X12_418 rfl (Nat.le_of_ble_eq_true rfl) (JC.mono h ?_)
    clear h
    rintro M3 _ ⟨r3, rfl, h⟩
    refine jw_st (st' := [.int r3]) rfl ?_
    refine jw_aload_n (pc := 156) (j := 0) dX12_apart_156 rfl rfl ?_
    refine jw_iload_n (pc := 157) (j := 2) dX12_apart_157 rfl rfl ?_
    refine jw_iconst (pc := 158) (v := 0) dX12_apart_158 rfl ?_
    refine jw_aload_n (pc := 159) (j := 0) dX12_apart_159 rfl rfl ?_
    refine jw_getR (pc := 160) (r := 5) dX12_apart_160 sM_0 fl_X12_35 (by decide) rfl rfl ?_
    refine jw_bipush (pc := 163) (v := 78) dX12_apart_163 rfl ?_
    refine jw_iload_n (pc := 165) (j := 3) dX12_apart_165 rfl rfl ?_
    refine jw_iadd (pc := 166) dX12_apart_166 ?_
    refine jw_iald (pc := 167) (j := j1) dX12_apart_167 sM_5 hj1 ej1 (by decide) ?_
    refine jw_iload (pc := 168) (j := 4) dX12_apart_168 rfl ?_
    refine jw_callV (pc := 170) (m2 := mX12_seenIn) (As := [.int l2, .int (0 : Int32), .int (M3.1 5 j1), .int l6]) (st := [.int r3]) dX12_apart_170 sM_0 (by decide) rfl rfl gm_X12_seenIn ml_X12_418 rfl (Nat.le_of_ble_eq_true rfl) (JC.mono h ?_)
    clear h
    rintro M4 _ ⟨r4, rfl, h⟩
    refine jw_st (st' := [.int r4, .int r3]) rfl ?_
    refine jw_icmp_eq (pc := 173) (tgt := 179) dX12_apart_173 (by decide) (fun c => ?_) (fun c => ?_)
    · replace h := h.1 c
      refine jw_iinc (pc := 179) (j := 4) (u := l6 + 1) (ls' := [(6, .int (l6 + 1)), (0, .ref (x.2.2.2 0)), (1, .int l1), (2, .int l2), (3, .int l3)]) dX12_apart_179 rfl rfl (by decide) rfl ?_
      refine jw_goto (pc := 182) (tgt := 129) dX12_apart_182 (by decide) ?_
      exact jw_sub [1, 2, 3, 4, 0] rfl h
    · replace h := h.2 c
      refine jw_iload (pc := 176) (j := 4) dX12_apart_176 rfl ?_
      exact jw_iret (pc := 178) dX12_apart_178 rfl ⟨_, rfl, h⟩
set_option maxRecDepth 20000 in
theorem b_X12_parts {x : jX} {d : Nat} {M : jM} {P : jM → Bool → Prop} {a1 : Int32} {a2 : Int32} {a3 : Int32} {a4 : Int32} 
    (h : JW x jtbM mX12_parts (d + 1) (jZ P) 3 [(0, .ref (x.2.2.2 0)), (1, .int a1), (2, .int a2), (3, .int a3), (4, .int a4), (5, .int (0 : Int32))] [] M) :
    JC x jtbM mX12_parts (d + 1) [.ref (x.2.2.2 0), .int a1, .int a2, .int a3, .int a4] M (jZ P) := by
  refine JC.of rfl (Nat.le_of_ble_eq_true rfl) ?_
  refine jw_ls (ls' := [(0, .ref (x.2.2.2 0)), (1, .int a1), (2, .int a2), (3, .int a3), (4, .int a4)]) rfl ?_
  refine jw_iconst (pc := 0) (v := 0) dX12_parts_0 rfl ?_
  refine jw_istore (pc := 1) (ls' := [(5, .int (0 : Int32)), (0, .ref (x.2.2.2 0)), (1, .int a1), (2, .int a2), (3, .int a3), (4, .int a4)]) dX12_parts_1 (by decide) rfl ?_
  exact jw_sub [1, 2, 3, 4, 5, 0] rfl h
set_option maxRecDepth 20000 in
theorem b_X12_parts_3 {x : jX} {d : Nat} {M : jM} {P : jM → Bool → Prop} {l1 : Int32} {l2 : Int32} {l3 : Int32} {l4 : Int32} {l5 : Int32} 
    (h : JC x jtbM mX12_strips d [.ref (x.2.2.2 0), .int l4] M (jI fun M1 r1 => (r1 ≤ l5 → P M1 false) ∧ (¬ r1 ≤ l5 → JC x jtbM mX12_cells d [.ref (x.2.2.2 0)] M1 (jI fun M2 r2 => ∃ j1, j1 < 2060 ∧ (78 : Int32) + l4 = nI j1 ∧ (JC x jtbM mX12_seenIn d [.ref (x.2.2.2 0), .int l1, .int (l2 * r2), .int (M2.1 5 j1), .int l5] M2 (jI fun M3 r3 => JC x jtbM mX12_cells d [.ref (x.2.2.2 0)] M3 (jI fun M4 r4 => JC x jtbM mX12_seenIn d [.ref (x.2.2.2 0), .int l1, .int (l3 * r4), .int (M4.1 5 j1), .int l5] M4 (jI fun M5 r5 => (r3 = r5 → JW x jtbM mX12_parts (d + 1) (jZ P) 3 [(0, .ref (x.2.2.2 0)), (1, .int l1), (2, .int l2), (3, .int l3), (4, .int l4), (5, .int (l5 + 1))] [] M5) ∧ (¬ r3 = r5 → P M5 true))))))))) :
    JW x jtbM mX12_parts (d + 1) (jZ P) 3 [(0, .ref (x.2.2.2 0)), (1, .int l1), (2, .int l2), (3, .int l3), (4, .int l4), (5, .int l5)] [] M := by
  refine jw_iload (pc := 3) (j := 5) dX12_parts_3 rfl ?_
  refine jw_aload_n (pc := 5) (j := 0) dX12_parts_5 rfl rfl ?_
  refine jw_iload (pc := 6) (j := 4) dX12_parts_6 rfl ?_
  refine jw_callV (pc := 8) (m2 := mX12_strips) (As := [.int l4]) (st := [.int l5]) dX12_parts_8 sM_0 (by decide) rfl rfl gm_X12_strips ml_X12_311 rfl (Nat.le_of_ble_eq_true rfl) (JC.mono h ?_)
  clear h
  rintro M1 _ ⟨r1, rfl, h⟩
  refine jw_st (st' := [.int r1, .int l5]) rfl ?_
  refine jw_icmp_ge (pc := 11) (tgt := 71) dX12_parts_11 (by decide) (fun c => ?_) (fun c => ?_)
  · replace h := h.1 c
    refine jw_iconst (pc := 71) (v := 0) dX12_parts_71 rfl ?_
    exact jw_zret (pc := 72) dX12_parts_72 rfl (Or.inl rfl) ⟨false, rfl, h⟩
  · replace h := h.2 c
    refine jw_aload_n (pc := 14) (j := 0) dX12_parts_14 rfl rfl ?_
    refine jw_iload_n (pc := 15) (j := 1) dX12_parts_15 rfl rfl ?_
    refine jw_iload_n (pc := 16) (j := 2) dX12_parts_16 rfl rfl ?_
    refine jw_aload_n (pc := 17) (j := 0) dX12_parts_17 rfl rfl ?_
    refine jw_callV (pc := 18) (m2 := mX12_cells) (As := []) (st := [.int l2, .int l1, .ref (x.2.2.2 0)]) dX12_parts_18 sM_0 (by decide) rfl rfl gm_X12_cells ml_X12_305 rfl (Nat.le_of_ble_eq_true rfl) (JC.mono h ?_)
    clear h
    rintro M2 _ ⟨r2, rfl, h⟩
    refine jw_st (st' := [.int r2, .int l2, .int l1, .ref (x.2.2.2 0)]) rfl ?_
    refine jw_imul (pc := 21) dX12_parts_21 ?_
    refine jw_aload_n (pc := 22) (j := 0) dX12_parts_22 rfl rfl ?_
    refine jw_getR (pc := 23) (r := 5) dX12_parts_23 sM_0 fl_X12_35 (by decide) rfl rfl ?_
    refine jw_bipush (pc := 26) (v := 78) dX12_parts_26 rfl ?_
    refine jw_iload (pc := 28) (j := 4) dX12_parts_28 rfl ?_
    refine jw_iadd (pc := 30) dX12_parts_30 ?_
    obtain ⟨j1, hj1, ej1, h⟩ := h
    refine jw_iald (pc := 31) (j := j1) dX12_parts_31 sM_5 hj1 ej1 (by decide) ?_
    refine jw_iload (pc := 32) (j := 5) dX12_parts_32 rfl ?_
    refine jw_callV (pc := 34) (m2 := mX12_seenIn) (As := [.int l1, .int (l2 * r2), .int (M2.1 5 j1), .int l5]) (st := []) dX12_parts_34 sM_0 (by decide) rfl rfl gm_X12_seenIn ml_X12_418 rfl (Nat.le_of_ble_eq_true rfl) (JC.mono h ?_)
    clear h
    rintro M3 _ ⟨r3, rfl, h⟩
    refine jw_st (st' := [.int r3]) rfl ?_
    refine jw_aload_n (pc := 37) (j := 0) dX12_parts_37 rfl rfl ?_
    refine jw_iload_n (pc := 38) (j := 1) dX12_parts_38 rfl rfl ?_
    refine jw_iload_n (pc := 39) (j := 3) dX12_parts_39 rfl rfl ?_
    refine jw_aload_n (pc := 40) (j := 0) dX12_parts_40 rfl rfl ?_
    refine jw_callV (pc := 41) (m2 := mX12_cells) (As := []) (st := [.int l3, .int l1, .ref (x.2.2.2 0), .int r3]) dX12_parts_41 sM_0 (by decide) rfl rfl gm_X12_cells ml_X12_305 rfl (Nat.le_of_ble_eq_true rfl) (JC.mono h ?_)
    clear h
    rintro M4 _ ⟨r4, rfl, h⟩
    refine jw_st (st' := [.int r4, .int l3, .int l1, .ref (x.2.2.2 0), .int r3]) rfl ?_
    refine jw_imul (pc := 44) dX12_parts_44 ?_
    refine jw_aload_n (pc := 45) (j := 0) dX12_parts_45 rfl rfl ?_
    refine jw_getR (pc := 46) (r := 5) dX12_parts_46 sM_0 fl_X12_35 (by decide) rfl rfl ?_
    refine jw_bipush (pc := 49) (v := 78) dX12_parts_49 rfl ?_
    refine jw_iload (pc := 51) (j := 4) dX12_parts_51 rfl ?_
    refine jw_iadd (pc := 53) dX12_parts_53 ?_
    refine jw_iald (pc := 54) (j := j1) dX12_parts_54 sM_5 hj1 ej1 (by decide) ?_
    refine jw_iload (pc := 55) (j := 5) dX12_parts_55 rfl ?_
    refine jw_callV (pc := 57) (m2 := mX12_seenIn) (As := [.int l1, .int (l3 * r4), .int (M4.1 5 j1), .int l5]) (st := [.int r3]) dX12_parts_57 sM_0 (by decide) rfl rfl gm_X12_seenIn ml_X12_418 rfl (Nat.le_of_ble_eq_true rfl) (JC.mono h ?_)
    clear h
    rintro M5 _ ⟨r5, rfl, h⟩
    refine jw_st (st' := [.int r5, .int r3]) rfl ?_
    refine jw_icmp_eq (pc := 60) (tgt := 65) dX12_parts_60 (by decide) (fun c => ?_) (fun c => ?_)
    · replace h := h.1 c
      refine jw_iinc (pc := 65) (j := 5) (u := l5 + 1) (ls' := [(5, .int (l5 + 1)), (0, .ref (x.2.2.2 0)), (1, .int l1), (2, .int l2), (3, .int l3), (4, .int l4)]) dX12_parts_65 rfl rfl (by decide) rfl ?_
      refine jw_goto (pc := 68) (tgt := 3) dX12_parts_68 (by decide) ?_
      exact jw_sub [1, 2, 3, 4, 5, 0] rfl h
    · replace h := h.2 c
      refine jw_iconst (pc := 63) (v := 1) dX12_parts_63 rfl ?_
      exact jw_zret (pc := 64) dX12_parts_64 rfl (Or.inr rfl) ⟨true, rfl, h⟩
set_option maxRecDepth 20000 in
theorem b_X12_watchAll {x : jX} {d : Nat} {M : jM} {P : jM → Bool → Prop} {a1 : Int32} {a2 : Int32} {a3 : Int32} 
    (h : JW x jtbM mX12_watchAll (d + 1) (jZ P) 3 [(0, .ref (x.2.2.2 0)), (1, .int a1), (2, .int a2), (3, .int a3), (4, .int (0 : Int32))] [] M) :
    JC x jtbM mX12_watchAll (d + 1) [.ref (x.2.2.2 0), .int a1, .int a2, .int a3] M (jZ P) := by
  refine JC.of rfl (Nat.le_of_ble_eq_true rfl) ?_
  refine jw_ls (ls' := [(0, .ref (x.2.2.2 0)), (1, .int a1), (2, .int a2), (3, .int a3)]) rfl ?_
  refine jw_iconst (pc := 0) (v := 0) dX12_watchAll_0 rfl ?_
  refine jw_istore (pc := 1) (ls' := [(4, .int (0 : Int32)), (0, .ref (x.2.2.2 0)), (1, .int a1), (2, .int a2), (3, .int a3)]) dX12_watchAll_1 (by decide) rfl ?_
  exact jw_sub [1, 2, 3, 4, 0] rfl h
set_option maxRecDepth 20000 in
theorem b_X12_watchAll_3 {x : jX} {d : Nat} {M : jM} {P : jM → Bool → Prop} {l1 : Int32} {l2 : Int32} {l3 : Int32} {l4 : Int32} 
    (h : (l2 ≤ l4 → P M true) ∧ (¬ l2 ≤ l4 → JW x jtbM mX12_watchAll (d + 1) (jZ P) 15 [(0, .ref (x.2.2.2 0)), (1, .int l1), (2, .int l2), (3, .int l3), (4, .int l4), (5, .int (l4 + (1 : Int32)))] [] M)) :
    JW x jtbM mX12_watchAll (d + 1) (jZ P) 3 [(0, .ref (x.2.2.2 0)), (1, .int l1), (2, .int l2), (3, .int l3), (4, .int l4)] [] M := by
  refine jw_iload (pc := 3) (j := 4) dX12_watchAll_3 rfl ?_
  refine jw_iload_n (pc := 5) (j := 2) dX12_watchAll_5 rfl rfl ?_
  refine jw_icmp_ge (pc := 6) (tgt := 99) dX12_watchAll_6 (by decide) (fun c => ?_) (fun c => ?_)
  · replace h := h.1 c
    refine jw_iconst (pc := 99) (v := 1) dX12_watchAll_99 rfl ?_
    exact jw_zret (pc := 100) dX12_watchAll_100 rfl (Or.inr rfl) ⟨true, rfl, h⟩
  · replace h := h.2 c
    refine jw_iload (pc := 9) (j := 4) dX12_watchAll_9 rfl ?_
    refine jw_iconst (pc := 11) (v := 1) dX12_watchAll_11 rfl ?_
    refine jw_iadd (pc := 12) dX12_watchAll_12 ?_
    refine jw_istore (pc := 13) (ls' := [(5, .int (l4 + (1 : Int32))), (0, .ref (x.2.2.2 0)), (1, .int l1), (2, .int l2), (3, .int l3), (4, .int l4)]) dX12_watchAll_13 (by decide) rfl ?_
    exact jw_sub [1, 2, 3, 4, 5, 0] rfl h
set_option maxRecDepth 20000 in
theorem b_X12_watchAll_15 {x : jX} {d : Nat} {M : jM} {P : jM → Bool → Prop} {l1 : Int32} {l2 : Int32} {l3 : Int32} {l4 : Int32} {l5 : Int32} 
    (h : (l2 ≤ l5 → JW x jtbM mX12_watchAll (d + 1) (jZ P) 3 [(0, .ref (x.2.2.2 0)), (1, .int l1), (2, .int l2), (3, .int l3), (4, .int (l4 + 1))] [] M) ∧ (¬ l2 ≤ l5 → JW x jtbM mX12_watchAll (d + 1) (jZ P) 27 [(0, .ref (x.2.2.2 0)), (1, .int l1), (2, .int l2), (3, .int l3), (4, .int l4), (5, .int l5), (6, .int (0 : Int32)), (7, .int (0 : Int32))] [] M)) :
    JW x jtbM mX12_watchAll (d + 1) (jZ P) 15 [(0, .ref (x.2.2.2 0)), (1, .int l1), (2, .int l2), (3, .int l3), (4, .int l4), (5, .int l5)] [] M := by
  refine jw_iload (pc := 15) (j := 5) dX12_watchAll_15 rfl ?_
  refine jw_iload_n (pc := 17) (j := 2) dX12_watchAll_17 rfl rfl ?_
  refine jw_icmp_ge (pc := 18) (tgt := 93) dX12_watchAll_18 (by decide) (fun c => ?_) (fun c => ?_)
  · replace h := h.1 c
    refine jw_iinc (pc := 93) (j := 4) (u := l4 + 1) (ls' := [(4, .int (l4 + 1)), (0, .ref (x.2.2.2 0)), (1, .int l1), (2, .int l2), (3, .int l3), (5, .int l5)]) dX12_watchAll_93 rfl rfl (by decide) rfl ?_
    refine jw_goto (pc := 96) (tgt := 3) dX12_watchAll_96 (by decide) ?_
    exact jw_sub [1, 2, 3, 4, 0] rfl h
  · replace h := h.2 c
    refine jw_iconst (pc := 21) (v := 0) dX12_watchAll_21 rfl ?_
    refine jw_istore (pc := 22) (ls' := [(6, .int (0 : Int32)), (0, .ref (x.2.2.2 0)), (1, .int l1), (2, .int l2), (3, .int l3), (4, .int l4), (5, .int l5)]) dX12_watchAll_22 (by decide) rfl ?_
    refine jw_iconst (pc := 24) (v := 0) dX12_watchAll_24 rfl ?_
    refine jw_istore (pc := 25) (ls' := [(7, .int (0 : Int32)), (6, .int (0 : Int32)), (0, .ref (x.2.2.2 0)), (1, .int l1), (2, .int l2), (3, .int l3), (4, .int l4), (5, .int l5)]) dX12_watchAll_25 (by decide) rfl ?_
    exact jw_sub [2, 3, 4, 5, 6, 7, 1, 0] rfl h
set_option maxRecDepth 20000 in
theorem b_X12_watchAll_27 {x : jX} {d : Nat} {M : jM} {P : jM → Bool → Prop} {l1 : Int32} {l2 : Int32} {l3 : Int32} {l4 : Int32} {l5 : Int32} {l6 : Int32} {l7 : Int32} 
    (h : ((M.1 5 2) ≤ l7 → (¬ l6 = 0 → JW x jtbM mX12_watchAll (d + 1) (jZ P) 15 [(0, .ref (x.2.2.2 0)), (1, .int l1), (2, .int l2), (3, .int l3), (4, .int l4), (5, .int (l5 + 1))] [] M) ∧ (l6 = 0 → P M false)) ∧ (¬ (M.1 5 2) ≤ l7 → (¬ l6 = 0 → JW x jtbM mX12_watchAll (d + 1) (jZ P) 27 [(0, .ref (x.2.2.2 0)), (1, .int l1), (2, .int l2), (3, .int l3), (4, .int l4), (5, .int l5), (6, .int (1 : Int32)), (7, .int (l7 + 1))] [] M) ∧ (l6 = 0 → JC x jtbM mX12_has d [.ref (x.2.2.2 0), .int l3, .int l7] M (jZ fun M1 b1 => (b1 = false → JW x jtbM mX12_watchAll (d + 1) (jZ P) 27 [(0, .ref (x.2.2.2 0)), (1, .int l1), (2, .int l2), (3, .int l3), (4, .int l4), (5, .int l5), (6, .int (0 : Int32)), (7, .int (l7 + 1))] [] M1) ∧ (b1 = true → JC x jtbM mX12_parts d [.ref (x.2.2.2 0), .int l1, .int l4, .int l5, .int l7] M1 (jZ fun M2 b2 => (b2 = false → JW x jtbM mX12_watchAll (d + 1) (jZ P) 27 [(0, .ref (x.2.2.2 0)), (1, .int l1), (2, .int l2), (3, .int l3), (4, .int l4), (5, .int l5), (6, .int (0 : Int32)), (7, .int (l7 + 1))] [] M2) ∧ (b2 = true → JW x jtbM mX12_watchAll (d + 1) (jZ P) 27 [(0, .ref (x.2.2.2 0)), (1, .int l1), (2, .int l2), (3, .int l3), (4, .int l4), (5, .int l5), (6, .int (1 : Int32)), (7, .int (l7 + 1))] [] M2))))))) :
    JW x jtbM mX12_watchAll (d + 1) (jZ P) 27 [(0, .ref (x.2.2.2 0)), (1, .int l1), (2, .int l2), (3, .int l3), (4, .int l4), (5, .int l5), (6, .int l6), (7, .int l7)] [] M := by
  refine jw_iload (pc := 27) (j := 7) dX12_watchAll_27 rfl ?_
  refine jw_aload_n (pc := 29) (j := 0) dX12_watchAll_29 rfl rfl ?_
  refine jw_getR (pc := 30) (r := 5) dX12_watchAll_30 sM_0 fl_X12_35 (by decide) rfl rfl ?_
  refine jw_iconst (pc := 33) (v := 2) dX12_watchAll_33 rfl ?_
  refine jw_iald (pc := 34) (j := 2) dX12_watchAll_34 sM_5 (by decide) rfl (by decide) ?_
  refine jw_icmp_ge (pc := 35) (tgt := 80) dX12_watchAll_35 (by decide) (fun c => ?_) (fun c => ?_)
  · replace h := h.1 c
    refine jw_iload (pc := 80) (j := 6) dX12_watchAll_80 rfl ?_
    refine jw_if_ne (pc := 82) (tgt := 87) dX12_watchAll_82 (by decide) (fun c => ?_) (fun c => ?_)
    · replace h := h.1 c
      refine jw_iinc (pc := 87) (j := 5) (u := l5 + 1) (ls' := [(5, .int (l5 + 1)), (0, .ref (x.2.2.2 0)), (1, .int l1), (2, .int l2), (3, .int l3), (4, .int l4), (6, .int l6), (7, .int l7)]) dX12_watchAll_87 rfl rfl (by decide) rfl ?_
      refine jw_goto (pc := 90) (tgt := 15) dX12_watchAll_90 (by decide) ?_
      exact jw_sub [1, 2, 3, 4, 5, 0] rfl h
    · replace h := h.2 c
      refine jw_iconst (pc := 85) (v := 0) dX12_watchAll_85 rfl ?_
      exact jw_zret (pc := 86) dX12_watchAll_86 rfl (Or.inl rfl) ⟨false, rfl, h⟩
  · replace h := h.2 c
    refine jw_iload (pc := 38) (j := 6) dX12_watchAll_38 rfl ?_
    refine jw_if_ne (pc := 40) (tgt := 67) dX12_watchAll_40 (by decide) (fun c => ?_) (fun c => ?_)
    · replace h := h.1 c
      refine jw_iconst (pc := 67) (v := 1) dX12_watchAll_67 rfl ?_
      refine jw_goto (pc := 68) (tgt := 72) dX12_watchAll_68 (by decide) ?_
      refine jw_istore (pc := 72) (ls' := [(6, .int (1 : Int32)), (0, .ref (x.2.2.2 0)), (1, .int l1), (2, .int l2), (3, .int l3), (4, .int l4), (5, .int l5), (7, .int l7)]) dX12_watchAll_72 (by decide) rfl ?_
      refine jw_iinc (pc := 74) (j := 7) (u := l7 + 1) (ls' := [(7, .int (l7 + 1)), (6, .int (1 : Int32)), (0, .ref (x.2.2.2 0)), (1, .int l1), (2, .int l2), (3, .int l3), (4, .int l4), (5, .int l5)]) dX12_watchAll_74 rfl rfl (by decide) rfl ?_
      refine jw_goto (pc := 77) (tgt := 27) dX12_watchAll_77 (by decide) ?_
      exact jw_sub [2, 3, 4, 5, 6, 7, 1, 0] rfl h
    · replace h := h.2 c
      refine jw_aload_n (pc := 43) (j := 0) dX12_watchAll_43 rfl rfl ?_
      refine jw_iload_n (pc := 44) (j := 3) dX12_watchAll_44 rfl rfl ?_
      refine jw_iload (pc := 45) (j := 7) dX12_watchAll_45 rfl ?_
      refine jw_callV (pc := 47) (m2 := mX12_has) (As := [.int l3, .int l7]) (st := []) dX12_watchAll_47 sM_0 (by decide) rfl rfl gm_X12_has ml_X12_381 rfl (Nat.le_of_ble_eq_true rfl) (JC.mono h ?_)
      clear h
      rintro M1 _ ⟨b1, rfl, h⟩
      refine jw_st (st' := [.int (jb b1)]) rfl ?_
      refine jw_if_eq (pc := 50) (tgt := 71) dX12_watchAll_50 (by decide) (fun c => ?_) (fun c => ?_)
      · replace h := h.1 ((jb_0 _).mp c)
        refine jw_iconst (pc := 71) (v := 0) dX12_watchAll_71 rfl ?_
        refine jw_istore (pc := 72) (ls' := [(6, .int (0 : Int32)), (0, .ref (x.2.2.2 0)), (1, .int l1), (2, .int l2), (3, .int l3), (4, .int l4), (5, .int l5), (7, .int l7)]) dX12_watchAll_72 (by decide) rfl ?_
        refine jw_iinc (pc := 74) (j := 7) (u := l7 + 1) (ls' := [(7, .int (l7 + 1)), (6, .int (0 : Int32)), (0, .ref (x.2.2.2 0)), (1, .int l1), (2, .int l2), (3, .int l3), (4, .int l4), (5, .int l5)]) dX12_watchAll_74 rfl rfl (by decide) rfl ?_
        refine jw_goto (pc := 77) (tgt := 27) dX12_watchAll_77 (by decide) ?_
        exact jw_sub [2, 3, 4, 5, 6, 7, 1, 0] rfl h
      · replace h := h.2 (jb_ne c)
        refine jw_aload_n (pc := 53) (j := 0) dX12_watchAll_53 rfl rfl ?_
        refine jw_iload_n (pc := 54) (j := 1) dX12_watchAll_54 rfl rfl ?_
        refine jw_iload (pc := 55) (j := 4) dX12_watchAll_55 rfl ?_
        refine jw_iload (pc := 57) (j := 5) dX12_watchAll_57 rfl ?_
        refine jw_iload (pc := 59) (j := 7) dX12_watchAll_59 rfl ?_
        refine jw_callV (pc := 61) (m2 := mX12_parts) (As := [.int l1, .int l4, .int l5, .int l7]) (st := []) dX12_watchAll_61 sM_0 (by decide) rfl rfl gm_X12_parts ml_X12_421 rfl (Nat.le_of_ble_eq_true rfl) (JC.mono h ?_)
        clear h
        rintro M2 _ ⟨b2, rfl, h⟩
        refine jw_st (st' := [.int (jb b2)]) rfl ?_
        refine jw_if_eq (pc := 64) (tgt := 71) dX12_watchAll_64 (by decide) (fun c => ?_) (fun c => ?_)
        · replace h := h.1 ((jb_0 _).mp c)
          refine jw_iconst (pc := 71) (v := 0) dX12_watchAll_71 rfl ?_
          refine jw_istore (pc := 72) (ls' := [(6, .int (0 : Int32)), (0, .ref (x.2.2.2 0)), (1, .int l1), (2, .int l2), (3, .int l3), (4, .int l4), (5, .int l5), (7, .int l7)]) dX12_watchAll_72 (by decide) rfl ?_
          refine jw_iinc (pc := 74) (j := 7) (u := l7 + 1) (ls' := [(7, .int (l7 + 1)), (6, .int (0 : Int32)), (0, .ref (x.2.2.2 0)), (1, .int l1), (2, .int l2), (3, .int l3), (4, .int l4), (5, .int l5)]) dX12_watchAll_74 rfl rfl (by decide) rfl ?_
          refine jw_goto (pc := 77) (tgt := 27) dX12_watchAll_77 (by decide) ?_
          exact jw_sub [2, 3, 4, 5, 6, 7, 1, 0] rfl h
        · replace h := h.2 (jb_ne c)
          refine jw_iconst (pc := 67) (v := 1) dX12_watchAll_67 rfl ?_
          refine jw_goto (pc := 68) (tgt := 72) dX12_watchAll_68 (by decide) ?_
          refine jw_istore (pc := 72) (ls' := [(6, .int (1 : Int32)), (0, .ref (x.2.2.2 0)), (1, .int l1), (2, .int l2), (3, .int l3), (4, .int l4), (5, .int l5), (7, .int l7)]) dX12_watchAll_72 (by decide) rfl ?_
          refine jw_iinc (pc := 74) (j := 7) (u := l7 + 1) (ls' := [(7, .int (l7 + 1)), (6, .int (1 : Int32)), (0, .ref (x.2.2.2 0)), (1, .int l1), (2, .int l2), (3, .int l3), (4, .int l4), (5, .int l5)]) dX12_watchAll_74 rfl rfl (by decide) rfl ?_
          refine jw_goto (pc := 77) (tgt := 27) dX12_watchAll_77 (by decide) ?_
          exact jw_sub [2, 3, 4, 5, 6, 7, 1, 0] rfl h
set_option maxRecDepth 20000 in
theorem b_X12_watchers {x : jX} {d : Nat} {M : jM} {P : jM → Int32 → Prop} {a1 : Int32} {a2 : Int32} 
    (h : ∀ M1, M1 = jrI M 0 (upd (M.1 0) 1 (0 : Int32)) → ∀ M2, M2 = jrI M1 0 (upd (M1.1 0) 0 (0 : Int32)) → JC x jtbM mX12_isTray d [.ref (x.2.2.2 0), .int a1] M2 (jZ fun M3 b1 => (b1 = true → ∃ j1, j1 < 4 ∧ a1 = nI j1 ∧ ((0 ≤ (M3.1 2 j1) → JC x jtbM mX12_isIn d [.long a2.toInt64, .long (2 : Int64), .long (4 : Int64)] M3 (jZ fun M4 b2 => (b2 = true → JC x jtbM mX12_cells d [.ref (x.2.2.2 0)] M4 (jI fun M5 r1 => JC x jtbM mX12_wrongRow d [.ref (x.2.2.2 0), .int a1, .int (a2 * r1)] M5 (jI fun M6 r2 => (r2 ≤ 0 → JW x jtbM mX12_watchers (d + 1) (jI P) 87 [(0, .ref (x.2.2.2 0)), (1, .int a1), (2, .int a2), (4, .int (-1 : Int32)), (5, .int (0 : Int32))] [] M6) ∧ (¬ r2 ≤ 0 → JC x jtbM mX12_refuse d [.ref (x.2.2.2 0), .int r2] M6 (jI fun M7 r3 => P M7 r3))))) ∧ (b2 = false → JC x jtbM mX12_refuse d [.ref (x.2.2.2 0), .int (5 : Int32)] M4 (jI fun M8 r4 => P M8 r4)))) ∧ (¬ 0 ≤ (M3.1 2 j1) → JC x jtbM mX12_refuse d [.ref (x.2.2.2 0), .int (3 : Int32)] M3 (jI fun M9 r5 => P M9 r5)))) ∧ (b1 = false → JC x jtbM mX12_refuse d [.ref (x.2.2.2 0), .int (1 : Int32)] M3 (jI fun M10 r6 => P M10 r6)))) :
    JC x jtbM mX12_watchers (d + 1) [.ref (x.2.2.2 0), .int a1, .int a2] M (jI P) := by
  refine JC.of rfl (Nat.le_of_ble_eq_true rfl) ?_
  refine jw_ls (ls' := [(0, .ref (x.2.2.2 0)), (1, .int a1), (2, .int a2)]) rfl ?_
  refine jw_aload_n (pc := 0) (j := 0) dX12_watchers_0 rfl rfl ?_
  refine jw_iconst (pc := 1) (v := 0) dX12_watchers_1 rfl ?_
  refine jw_putI (pc := 2) dX12_watchers_2 sM_0 fl_X12_81 fw_12_1 (by decide) rfl ?_
  replace h := h _ rfl
  generalize jrI M 0 (upd (M.1 0) 1 (0 : Int32)) = M1 at h ⊢
  refine jw_aload_n (pc := 5) (j := 0) dX12_watchers_5 rfl rfl ?_
  refine jw_iconst (pc := 6) (v := 0) dX12_watchers_6 rfl ?_
  refine jw_putI (pc := 7) dX12_watchers_7 sM_0 fl_X12_84 fw_12_0 (by decide) rfl ?_
  replace h := h _ rfl
  generalize jrI M1 0 (upd (M1.1 0) 0 (0 : Int32)) = M2 at h ⊢
  refine jw_aload_n (pc := 10) (j := 0) dX12_watchers_10 rfl rfl ?_
  refine jw_iload_n (pc := 11) (j := 1) dX12_watchers_11 rfl rfl ?_
  refine jw_callV (pc := 12) (m2 := mX12_isTray) (As := [.int a1]) (st := []) dX12_watchers_12 sM_0 (by decide) rfl rfl gm_X12_isTray ml_X12_336 rfl (Nat.le_of_ble_eq_true rfl) (JC.mono h ?_)
  clear h
  rintro M3 _ ⟨b1, rfl, h⟩
  refine jw_st (st' := [.int (jb b1)]) rfl ?_
  refine jw_if_ne (pc := 15) (tgt := 24) dX12_watchers_15 (by decide) (fun c => ?_) (fun c => ?_)
  · replace h := h.1 (jb_ne c)
    refine jw_aload_n (pc := 24) (j := 0) dX12_watchers_24 rfl rfl ?_
    refine jw_getR (pc := 25) (r := 2) dX12_watchers_25 sM_0 fl_X12_17 (by decide) rfl rfl ?_
    refine jw_iload_n (pc := 28) (j := 1) dX12_watchers_28 rfl rfl ?_
    obtain ⟨j1, hj1, ej1, h⟩ := h
    refine jw_iald (pc := 29) (j := j1) dX12_watchers_29 sM_2 hj1 ej1 (by decide) ?_
    refine jw_if_ge (pc := 30) (tgt := 39) dX12_watchers_30 (by decide) (fun c => ?_) (fun c => ?_)
    · replace h := h.1 c
      refine jw_iload_n (pc := 39) (j := 2) dX12_watchers_39 rfl rfl ?_
      refine jw_i2l (pc := 40) dX12_watchers_40 ?_
      refine jw_ldc2 (pc := 41) (v := 2) dX12_watchers_41 kl_X12_314 ?_
      refine jw_ldc2 (pc := 44) (v := 4) dX12_watchers_44 kl_X12_425 ?_
      refine jw_callS (pc := 47) (m2 := mX12_isIn) (As := [.long a2.toInt64, .long (2 : Int64), .long (4 : Int64)]) (st := []) dX12_watchers_47 gm_X12_isIn ml_X12_116 rfl (Nat.le_of_ble_eq_true rfl) (JC.mono h ?_)
      clear h
      rintro M4 _ ⟨b2, rfl, h⟩
      refine jw_st (st' := [.int (jb b2)]) rfl ?_
      refine jw_if_ne (pc := 50) (tgt := 59) dX12_watchers_50 (by decide) (fun c => ?_) (fun c => ?_)
      · replace h := h.1 (jb_ne c)
        refine jw_aload_n (pc := 59) (j := 0) dX12_watchers_59 rfl rfl ?_
        refine jw_iload_n (pc := 60) (j := 1) dX12_watchers_60 rfl rfl ?_
        refine jw_iload_n (pc := 61) (j := 2) dX12_watchers_61 rfl rfl ?_
        refine jw_aload_n (pc := 62) (j := 0) dX12_watchers_62 rfl rfl ?_
        refine jw_callV (pc := 63) (m2 := mX12_cells) (As := []) (st := [.int a2, .int a1, .ref (x.2.2.2 0)]) dX12_watchers_63 sM_0 (by decide) rfl rfl gm_X12_cells ml_X12_305 rfl (Nat.le_of_ble_eq_true rfl) (JC.mono h ?_)
        clear h
        rintro M5 _ ⟨r1, rfl, h⟩
        refine jw_st (st' := [.int r1, .int a2, .int a1, .ref (x.2.2.2 0)]) rfl ?_
        refine jw_imul (pc := 66) dX12_watchers_66 ?_
        refine jw_callV (pc := 67) (m2 := mX12_wrongRow) (As := [.int a1, .int (a2 * r1)]) (st := []) dX12_watchers_67 sM_0 (by decide) rfl rfl gm_X12_wrongRow ml_X12_339 rfl (Nat.le_of_ble_eq_true rfl) (JC.mono h ?_)
        clear h
        rintro M6 _ ⟨r2, rfl, h⟩
        refine jw_st (st' := [.int r2]) rfl ?_
        refine jw_istore_n (pc := 70) (ls' := [(3, .int r2), (0, .ref (x.2.2.2 0)), (1, .int a1), (2, .int a2)]) dX12_watchers_70 rfl (by decide) rfl ?_
        refine jw_iload_n (pc := 71) (j := 0) dX12_watchers_71 rfl rfl ?_
        refine jw_if_le (pc := 72) (tgt := 81) dX12_watchers_72 (by decide) (fun c => ?_) (fun c => ?_)
        · replace h := h.1 c
          refine jw_iconst (pc := 81) (v := (-1)) dX12_watchers_81 rfl ?_
          refine jw_istore (pc := 82) (ls' := [(4, .int (-1 : Int32)), (3, .int r2), (0, .ref (x.2.2.2 0)), (1, .int a1), (2, .int a2)]) dX12_watchers_82 (by decide) rfl ?_
          refine jw_iconst (pc := 84) (v := 0) dX12_watchers_84 rfl ?_
          refine jw_istore (pc := 85) (ls' := [(5, .int (0 : Int32)), (4, .int (-1 : Int32)), (3, .int r2), (0, .ref (x.2.2.2 0)), (1, .int a1), (2, .int a2)]) dX12_watchers_85 (by decide) rfl ?_
          exact jw_sub [3, 4, 5, 1, 0] rfl h
        · replace h := h.2 c
          refine jw_aload_n (pc := 75) (j := 1) dX12_watchers_75 rfl rfl ?_
          refine jw_iload_n (pc := 76) (j := 0) dX12_watchers_76 rfl rfl ?_
          refine jw_callV (pc := 77) (m2 := mX12_refuse) (As := [.int r2]) (st := []) dX12_watchers_77 sM_0 (by decide) rfl rfl gm_X12_refuse ml_X12_316 rfl (Nat.le_of_ble_eq_true rfl) (JC.mono h ?_)
          clear h
          rintro M7 _ ⟨r3, rfl, h⟩
          refine jw_st (st' := [.int r3]) rfl ?_
          exact jw_iret (pc := 80) dX12_watchers_80 rfl ⟨_, rfl, h⟩
      · replace h := h.2 ((jb_0 _).mp c)
        refine jw_aload_n (pc := 53) (j := 0) dX12_watchers_53 rfl rfl ?_
        refine jw_iconst (pc := 54) (v := 5) dX12_watchers_54 rfl ?_
        refine jw_callV (pc := 55) (m2 := mX12_refuse) (As := [.int (5 : Int32)]) (st := []) dX12_watchers_55 sM_0 (by decide) rfl rfl gm_X12_refuse ml_X12_316 rfl (Nat.le_of_ble_eq_true rfl) (JC.mono h ?_)
        clear h
        rintro M8 _ ⟨r4, rfl, h⟩
        refine jw_st (st' := [.int r4]) rfl ?_
        exact jw_iret (pc := 58) dX12_watchers_58 rfl ⟨_, rfl, h⟩
    · replace h := h.2 c
      refine jw_aload_n (pc := 33) (j := 0) dX12_watchers_33 rfl rfl ?_
      refine jw_iconst (pc := 34) (v := 3) dX12_watchers_34 rfl ?_
      refine jw_callV (pc := 35) (m2 := mX12_refuse) (As := [.int (3 : Int32)]) (st := []) dX12_watchers_35 sM_0 (by decide) rfl rfl gm_X12_refuse ml_X12_316 rfl (Nat.le_of_ble_eq_true rfl) (JC.mono h ?_)
      clear h
      rintro M9 _ ⟨r5, rfl, h⟩
      refine jw_st (st' := [.int r5]) rfl ?_
      exact jw_iret (pc := 38) dX12_watchers_38 rfl ⟨_, rfl, h⟩
  · replace h := h.2 ((jb_0 _).mp c)
    refine jw_aload_n (pc := 18) (j := 0) dX12_watchers_18 rfl rfl ?_
    refine jw_iconst (pc := 19) (v := 1) dX12_watchers_19 rfl ?_
    refine jw_callV (pc := 20) (m2 := mX12_refuse) (As := [.int (1 : Int32)]) (st := []) dX12_watchers_20 sM_0 (by decide) rfl rfl gm_X12_refuse ml_X12_316 rfl (Nat.le_of_ble_eq_true rfl) (JC.mono h ?_)
    clear h
    rintro M10 _ ⟨r6, rfl, h⟩
    refine jw_st (st' := [.int r6]) rfl ?_
    exact jw_iret (pc := 23) dX12_watchers_23 rfl ⟨_, rfl, h⟩
set_option maxRecDepth 20000 in
theorem b_X12_watchers_87 {x : jX} {d : Nat} {M : jM} {P : jM → Int32 → Prop} {l1 : Int32} {l2 : Int32} {l4 : Int32} {l5 : Int32} 
    (h : (((1 : Int32) <<< ((M.1 5 2) &&& 31)) ≤ l5 → (0 ≤ l4 → P M l4) ∧ (¬ 0 ≤ l4 → JC x jtbM mX12_refuse d [.ref (x.2.2.2 0), .int (9 : Int32)] M (jI fun M1 r1 => P M1 r1))) ∧ (¬ ((1 : Int32) <<< ((M.1 5 2) &&& 31)) ≤ l5 → (l4 < 0 → JW x jtbM mX12_watchers (d + 1) (jI P) 118 [(0, .ref (x.2.2.2 0)), (1, .int l1), (2, .int l2), (4, .int l4), (5, .int l5)] [] M) ∧ (¬ l4 < 0 → JC x jtbM mX12_bits d [.int l5] M (jI fun M2 r2 => JC x jtbM mX12_bits d [.int l4] M2 (jI fun M3 r3 => (r3 ≤ r2 → JW x jtbM mX12_watchers (d + 1) (jI P) 87 [(0, .ref (x.2.2.2 0)), (1, .int l1), (2, .int l2), (4, .int l4), (5, .int (l5 + 1))] [] M3) ∧ (¬ r3 ≤ r2 → JW x jtbM mX12_watchers (d + 1) (jI P) 118 [(0, .ref (x.2.2.2 0)), (1, .int l1), (2, .int l2), (4, .int l4), (5, .int l5)] [] M3)))))) :
    JW x jtbM mX12_watchers (d + 1) (jI P) 87 [(0, .ref (x.2.2.2 0)), (1, .int l1), (2, .int l2), (4, .int l4), (5, .int l5)] [] M := by
  refine jw_iload (pc := 87) (j := 4) dX12_watchers_87 rfl ?_
  refine jw_iconst (pc := 89) (v := 1) dX12_watchers_89 rfl ?_
  refine jw_aload_n (pc := 90) (j := 0) dX12_watchers_90 rfl rfl ?_
  refine jw_getR (pc := 91) (r := 5) dX12_watchers_91 sM_0 fl_X12_35 (by decide) rfl rfl ?_
  refine jw_iconst (pc := 94) (v := 2) dX12_watchers_94 rfl ?_
  refine jw_iald (pc := 95) (j := 2) dX12_watchers_95 sM_5 (by decide) rfl (by decide) ?_
  refine jw_ishl (pc := 96) dX12_watchers_96 ?_
  refine jw_icmp_ge (pc := 97) (tgt := 139) dX12_watchers_97 (by decide) (fun c => ?_) (fun c => ?_)
  · replace h := h.1 c
    refine jw_iload (pc := 139) (j := 3) dX12_watchers_139 rfl ?_
    refine jw_if_ge (pc := 141) (tgt := 153) dX12_watchers_141 (by decide) (fun c => ?_) (fun c => ?_)
    · replace h := h.1 c
      refine jw_iload (pc := 153) (j := 3) dX12_watchers_153 rfl ?_
      exact jw_iret (pc := 155) dX12_watchers_155 rfl ⟨_, rfl, h⟩
    · replace h := h.2 c
      refine jw_aload_n (pc := 144) (j := 0) dX12_watchers_144 rfl rfl ?_
      refine jw_bipush (pc := 145) (v := 9) dX12_watchers_145 rfl ?_
      refine jw_callV (pc := 147) (m2 := mX12_refuse) (As := [.int (9 : Int32)]) (st := []) dX12_watchers_147 sM_0 (by decide) rfl rfl gm_X12_refuse ml_X12_316 rfl (Nat.le_of_ble_eq_true rfl) (JC.mono h ?_)
      clear h
      rintro M1 _ ⟨r1, rfl, h⟩
      refine jw_st (st' := [.int r1]) rfl ?_
      refine jw_goto (pc := 150) (tgt := 155) dX12_watchers_150 (by decide) ?_
      exact jw_iret (pc := 155) dX12_watchers_155 rfl ⟨_, rfl, h⟩
  · replace h := h.2 c
    refine jw_iload (pc := 100) (j := 3) dX12_watchers_100 rfl ?_
    refine jw_if_lt (pc := 102) (tgt := 118) dX12_watchers_102 (by decide) (fun c => ?_) (fun c => ?_)
    · replace h := h.1 c
      exact jw_sub [0, 1, 2, 3, 4] rfl h
    · replace h := h.2 c
      refine jw_iload (pc := 105) (j := 4) dX12_watchers_105 rfl ?_
      refine jw_callS (pc := 107) (m2 := mX12_bits) (As := [.int l5]) (st := []) dX12_watchers_107 gm_X12_bits ml_X12_387 rfl (Nat.le_of_ble_eq_true rfl) (JC.mono h ?_)
      clear h
      rintro M2 _ ⟨r2, rfl, h⟩
      refine jw_st (st' := [.int r2]) rfl ?_
      refine jw_iload (pc := 110) (j := 3) dX12_watchers_110 rfl ?_
      refine jw_callS (pc := 112) (m2 := mX12_bits) (As := [.int l4]) (st := [.int r2]) dX12_watchers_112 gm_X12_bits ml_X12_387 rfl (Nat.le_of_ble_eq_true rfl) (JC.mono h ?_)
      clear h
      rintro M3 _ ⟨r3, rfl, h⟩
      refine jw_st (st' := [.int r3, .int r2]) rfl ?_
      refine jw_icmp_ge (pc := 115) (tgt := 133) dX12_watchers_115 (by decide) (fun c => ?_) (fun c => ?_)
      · replace h := h.1 c
        refine jw_iinc (pc := 133) (j := 4) (u := l5 + 1) (ls' := [(5, .int (l5 + 1)), (0, .ref (x.2.2.2 0)), (1, .int l1), (2, .int l2), (4, .int l4)]) dX12_watchers_133 rfl rfl (by decide) rfl ?_
        refine jw_goto (pc := 136) (tgt := 87) dX12_watchers_136 (by decide) ?_
        exact jw_sub [1, 2, 3, 4, 0] rfl h
      · replace h := h.2 c
        exact jw_sub [0, 1, 2, 3, 4] rfl h
set_option maxRecDepth 20000 in
theorem b_X12_watchers_118 {x : jX} {d : Nat} {M : jM} {P : jM → Int32 → Prop} {l1 : Int32} {l2 : Int32} {l4 : Int32} {l5 : Int32} 
    (h : JC x jtbM mX12_watchAll d [.ref (x.2.2.2 0), .int l1, .int l2, .int l5] M (jZ fun M1 b1 => (b1 = false → JW x jtbM mX12_watchers (d + 1) (jI P) 87 [(0, .ref (x.2.2.2 0)), (1, .int l1), (2, .int l2), (4, .int l4), (5, .int (l5 + 1))] [] M1) ∧ (b1 = true → JW x jtbM mX12_watchers (d + 1) (jI P) 87 [(0, .ref (x.2.2.2 0)), (1, .int l1), (2, .int l2), (4, .int l5), (5, .int (l5 + 1))] [] M1))) :
    JW x jtbM mX12_watchers (d + 1) (jI P) 118 [(0, .ref (x.2.2.2 0)), (1, .int l1), (2, .int l2), (4, .int l4), (5, .int l5)] [] M := by
  refine jw_aload_n (pc := 118) (j := 0) dX12_watchers_118 rfl rfl ?_
  refine jw_iload_n (pc := 119) (j := 1) dX12_watchers_119 rfl rfl ?_
  refine jw_iload_n (pc := 120) (j := 2) dX12_watchers_120 rfl rfl ?_
  refine jw_iload (pc := 121) (j := 4) dX12_watchers_121 rfl ?_
  refine jw_callV (pc := 123) (m2 := mX12_watchAll) (As := [.int l1, .int l2, .int l5]) (st := []) dX12_watchers_123 sM_0 (by decide) rfl rfl gm_X12_watchAll ml_X12_427 rfl (Nat.le_of_ble_eq_true rfl) (JC.mono h ?_)
  clear h
  rintro M1 _ ⟨b1, rfl, h⟩
  refine jw_st (st' := [.int (jb b1)]) rfl ?_
  refine jw_if_eq (pc := 126) (tgt := 133) dX12_watchers_126 (by decide) (fun c => ?_) (fun c => ?_)
  · replace h := h.1 ((jb_0 _).mp c)
    refine jw_iinc (pc := 133) (j := 4) (u := l5 + 1) (ls' := [(5, .int (l5 + 1)), (0, .ref (x.2.2.2 0)), (1, .int l1), (2, .int l2), (4, .int l4)]) dX12_watchers_133 rfl rfl (by decide) rfl ?_
    refine jw_goto (pc := 136) (tgt := 87) dX12_watchers_136 (by decide) ?_
    exact jw_sub [1, 2, 3, 4, 0] rfl h
  · replace h := h.2 (jb_ne c)
    refine jw_iload (pc := 129) (j := 4) dX12_watchers_129 rfl ?_
    refine jw_istore (pc := 131) (ls' := [(4, .int l5), (0, .ref (x.2.2.2 0)), (1, .int l1), (2, .int l2), (5, .int l5)]) dX12_watchers_131 (by decide) rfl ?_
    refine jw_iinc (pc := 133) (j := 4) (u := l5 + 1) (ls' := [(5, .int (l5 + 1)), (4, .int l5), (0, .ref (x.2.2.2 0)), (1, .int l1), (2, .int l2)]) dX12_watchers_133 rfl rfl (by decide) rfl ?_
    refine jw_goto (pc := 136) (tgt := 87) dX12_watchers_136 (by decide) ?_
    exact jw_sub [2, 3, 4, 1, 0] rfl h
set_option maxRecDepth 20000 in
theorem b_X12_tenth {x : jX} {d : Nat} {M : jM} {P : jM → Int32 → Prop} {a1 : Int32} {a2 : Int32} 
    (h : ∀ M1, M1 = jrI M 0 (upd (M.1 0) 1 (0 : Int32)) → ∀ M2, M2 = jrI M1 0 (upd (M1.1 0) 0 (0 : Int32)) → JC x jtbM mX12_isTray d [.ref (x.2.2.2 0), .int a1] M2 (jZ fun M3 b1 => (b1 = true → ∃ j1, j1 < 4 ∧ a1 = nI j1 ∧ ((0 ≤ (M3.1 2 j1) → JC x jtbM mX12_isIn d [.long a2.toInt64, .long (1 : Int64), .long (9 : Int64)] M3 (jZ fun M4 b2 => (b2 = true → JC x jtbM mX12_wrongRow d [.ref (x.2.2.2 0), .int a1, .int a2] M4 (jI fun M5 r1 => (r1 ≤ 0 → JW x jtbM mX12_tenth (d + 1) (jI P) 80 [(0, .ref (x.2.2.2 0)), (1, .int a1), (2, .int a2), (4, .int (0 : Int32)), (5, .int (0 : Int32))] [] M5) ∧ (¬ r1 ≤ 0 → JC x jtbM mX12_refuse d [.ref (x.2.2.2 0), .int r1] M5 (jI fun M6 r2 => P M6 r2)))) ∧ (b2 = false → JC x jtbM mX12_refuse d [.ref (x.2.2.2 0), .int (5 : Int32)] M4 (jI fun M7 r3 => P M7 r3)))) ∧ (¬ 0 ≤ (M3.1 2 j1) → JC x jtbM mX12_refuse d [.ref (x.2.2.2 0), .int (3 : Int32)] M3 (jI fun M8 r4 => P M8 r4)))) ∧ (b1 = false → JC x jtbM mX12_refuse d [.ref (x.2.2.2 0), .int (1 : Int32)] M3 (jI fun M9 r5 => P M9 r5)))) :
    JC x jtbM mX12_tenth (d + 1) [.ref (x.2.2.2 0), .int a1, .int a2] M (jI P) := by
  refine JC.of rfl (Nat.le_of_ble_eq_true rfl) ?_
  refine jw_ls (ls' := [(0, .ref (x.2.2.2 0)), (1, .int a1), (2, .int a2)]) rfl ?_
  refine jw_aload_n (pc := 0) (j := 0) dX12_tenth_0 rfl rfl ?_
  refine jw_iconst (pc := 1) (v := 0) dX12_tenth_1 rfl ?_
  refine jw_putI (pc := 2) dX12_tenth_2 sM_0 fl_X12_81 fw_12_1 (by decide) rfl ?_
  replace h := h _ rfl
  generalize jrI M 0 (upd (M.1 0) 1 (0 : Int32)) = M1 at h ⊢
  refine jw_aload_n (pc := 5) (j := 0) dX12_tenth_5 rfl rfl ?_
  refine jw_iconst (pc := 6) (v := 0) dX12_tenth_6 rfl ?_
  refine jw_putI (pc := 7) dX12_tenth_7 sM_0 fl_X12_84 fw_12_0 (by decide) rfl ?_
  replace h := h _ rfl
  generalize jrI M1 0 (upd (M1.1 0) 0 (0 : Int32)) = M2 at h ⊢
  refine jw_aload_n (pc := 10) (j := 0) dX12_tenth_10 rfl rfl ?_
  refine jw_iload_n (pc := 11) (j := 1) dX12_tenth_11 rfl rfl ?_
  refine jw_callV (pc := 12) (m2 := mX12_isTray) (As := [.int a1]) (st := []) dX12_tenth_12 sM_0 (by decide) rfl rfl gm_X12_isTray ml_X12_336 rfl (Nat.le_of_ble_eq_true rfl) (JC.mono h ?_)
  clear h
  rintro M3 _ ⟨b1, rfl, h⟩
  refine jw_st (st' := [.int (jb b1)]) rfl ?_
  refine jw_if_ne (pc := 15) (tgt := 24) dX12_tenth_15 (by decide) (fun c => ?_) (fun c => ?_)
  · replace h := h.1 (jb_ne c)
    refine jw_aload_n (pc := 24) (j := 0) dX12_tenth_24 rfl rfl ?_
    refine jw_getR (pc := 25) (r := 2) dX12_tenth_25 sM_0 fl_X12_17 (by decide) rfl rfl ?_
    refine jw_iload_n (pc := 28) (j := 1) dX12_tenth_28 rfl rfl ?_
    obtain ⟨j1, hj1, ej1, h⟩ := h
    refine jw_iald (pc := 29) (j := j1) dX12_tenth_29 sM_2 hj1 ej1 (by decide) ?_
    refine jw_if_ge (pc := 30) (tgt := 39) dX12_tenth_30 (by decide) (fun c => ?_) (fun c => ?_)
    · replace h := h.1 c
      refine jw_iload_n (pc := 39) (j := 2) dX12_tenth_39 rfl rfl ?_
      refine jw_i2l (pc := 40) dX12_tenth_40 ?_
      refine jw_lconst (pc := 41) (v := 1) dX12_tenth_41 rfl ?_
      refine jw_ldc2 (pc := 42) (v := 9) dX12_tenth_42 kl_X12_431 ?_
      refine jw_callS (pc := 45) (m2 := mX12_isIn) (As := [.long a2.toInt64, .long (1 : Int64), .long (9 : Int64)]) (st := []) dX12_tenth_45 gm_X12_isIn ml_X12_116 rfl (Nat.le_of_ble_eq_true rfl) (JC.mono h ?_)
      clear h
      rintro M4 _ ⟨b2, rfl, h⟩
      refine jw_st (st' := [.int (jb b2)]) rfl ?_
      refine jw_if_ne (pc := 48) (tgt := 57) dX12_tenth_48 (by decide) (fun c => ?_) (fun c => ?_)
      · replace h := h.1 (jb_ne c)
        refine jw_aload_n (pc := 57) (j := 0) dX12_tenth_57 rfl rfl ?_
        refine jw_iload_n (pc := 58) (j := 1) dX12_tenth_58 rfl rfl ?_
        refine jw_iload_n (pc := 59) (j := 2) dX12_tenth_59 rfl rfl ?_
        refine jw_callV (pc := 60) (m2 := mX12_wrongRow) (As := [.int a1, .int a2]) (st := []) dX12_tenth_60 sM_0 (by decide) rfl rfl gm_X12_wrongRow ml_X12_339 rfl (Nat.le_of_ble_eq_true rfl) (JC.mono h ?_)
        clear h
        rintro M5 _ ⟨r1, rfl, h⟩
        refine jw_st (st' := [.int r1]) rfl ?_
        refine jw_istore_n (pc := 63) (ls' := [(3, .int r1), (0, .ref (x.2.2.2 0)), (1, .int a1), (2, .int a2)]) dX12_tenth_63 rfl (by decide) rfl ?_
        refine jw_iload_n (pc := 64) (j := 0) dX12_tenth_64 rfl rfl ?_
        refine jw_if_le (pc := 65) (tgt := 74) dX12_tenth_65 (by decide) (fun c => ?_) (fun c => ?_)
        · replace h := h.1 c
          refine jw_iconst (pc := 74) (v := 0) dX12_tenth_74 rfl ?_
          refine jw_istore (pc := 75) (ls' := [(4, .int (0 : Int32)), (3, .int r1), (0, .ref (x.2.2.2 0)), (1, .int a1), (2, .int a2)]) dX12_tenth_75 (by decide) rfl ?_
          refine jw_iconst (pc := 77) (v := 0) dX12_tenth_77 rfl ?_
          refine jw_istore (pc := 78) (ls' := [(5, .int (0 : Int32)), (4, .int (0 : Int32)), (3, .int r1), (0, .ref (x.2.2.2 0)), (1, .int a1), (2, .int a2)]) dX12_tenth_78 (by decide) rfl ?_
          exact jw_sub [3, 4, 5, 1, 0] rfl h
        · replace h := h.2 c
          refine jw_aload_n (pc := 68) (j := 1) dX12_tenth_68 rfl rfl ?_
          refine jw_iload_n (pc := 69) (j := 0) dX12_tenth_69 rfl rfl ?_
          refine jw_callV (pc := 70) (m2 := mX12_refuse) (As := [.int r1]) (st := []) dX12_tenth_70 sM_0 (by decide) rfl rfl gm_X12_refuse ml_X12_316 rfl (Nat.le_of_ble_eq_true rfl) (JC.mono h ?_)
          clear h
          rintro M6 _ ⟨r2, rfl, h⟩
          refine jw_st (st' := [.int r2]) rfl ?_
          exact jw_iret (pc := 73) dX12_tenth_73 rfl ⟨_, rfl, h⟩
      · replace h := h.2 ((jb_0 _).mp c)
        refine jw_aload_n (pc := 51) (j := 0) dX12_tenth_51 rfl rfl ?_
        refine jw_iconst (pc := 52) (v := 5) dX12_tenth_52 rfl ?_
        refine jw_callV (pc := 53) (m2 := mX12_refuse) (As := [.int (5 : Int32)]) (st := []) dX12_tenth_53 sM_0 (by decide) rfl rfl gm_X12_refuse ml_X12_316 rfl (Nat.le_of_ble_eq_true rfl) (JC.mono h ?_)
        clear h
        rintro M7 _ ⟨r3, rfl, h⟩
        refine jw_st (st' := [.int r3]) rfl ?_
        exact jw_iret (pc := 56) dX12_tenth_56 rfl ⟨_, rfl, h⟩
    · replace h := h.2 c
      refine jw_aload_n (pc := 33) (j := 0) dX12_tenth_33 rfl rfl ?_
      refine jw_iconst (pc := 34) (v := 3) dX12_tenth_34 rfl ?_
      refine jw_callV (pc := 35) (m2 := mX12_refuse) (As := [.int (3 : Int32)]) (st := []) dX12_tenth_35 sM_0 (by decide) rfl rfl gm_X12_refuse ml_X12_316 rfl (Nat.le_of_ble_eq_true rfl) (JC.mono h ?_)
      clear h
      rintro M8 _ ⟨r4, rfl, h⟩
      refine jw_st (st' := [.int r4]) rfl ?_
      exact jw_iret (pc := 38) dX12_tenth_38 rfl ⟨_, rfl, h⟩
  · replace h := h.2 ((jb_0 _).mp c)
    refine jw_aload_n (pc := 18) (j := 0) dX12_tenth_18 rfl rfl ?_
    refine jw_iconst (pc := 19) (v := 1) dX12_tenth_19 rfl ?_
    refine jw_callV (pc := 20) (m2 := mX12_refuse) (As := [.int (1 : Int32)]) (st := []) dX12_tenth_20 sM_0 (by decide) rfl rfl gm_X12_refuse ml_X12_316 rfl (Nat.le_of_ble_eq_true rfl) (JC.mono h ?_)
    clear h
    rintro M9 _ ⟨r5, rfl, h⟩
    refine jw_st (st' := [.int r5]) rfl ?_
    exact jw_iret (pc := 23) dX12_tenth_23 rfl ⟨_, rfl, h⟩
set_option maxRecDepth 20000 in
theorem b_X12_tenth_80 {x : jX} {d : Nat} {M : jM} {P : jM → Int32 → Prop} {l1 : Int32} {l2 : Int32} {l4 : Int32} {l5 : Int32} 
    (h : ((8 : Int32) ≤ l5 → P M l4) ∧ (¬ (8 : Int32) ≤ l5 → JC x jtbM mX12_stripsOf d [.ref (x.2.2.2 0), .int l5, .int (M.1 5 0), .int (M.1 5 1)] M (jI fun M1 r1 => (¬ r1 = l2 → JW x jtbM mX12_tenth (d + 1) (jI P) 126 [(0, .ref (x.2.2.2 0)), (1, .int l1), (2, .int l2), (4, .int l4), (5, .int l5), (6, .int (0 : Int32)), (7, .int (0 : Int32))] [] M1) ∧ (r1 = l2 → JC x jtbM mX12_cells d [.ref (x.2.2.2 0)] M1 (jI fun M2 r2 => (r2 ≤ 0 → JW x jtbM mX12_tenth (d + 1) (jI P) 126 [(0, .ref (x.2.2.2 0)), (1, .int l1), (2, .int l2), (4, .int l4), (5, .int l5), (6, .int (0 : Int32)), (7, .int (0 : Int32))] [] M2) ∧ (¬ r2 ≤ 0 → JW x jtbM mX12_tenth (d + 1) (jI P) 126 [(0, .ref (x.2.2.2 0)), (1, .int l1), (2, .int l2), (4, .int l4), (5, .int l5), (6, .int (1 : Int32)), (7, .int (0 : Int32))] [] M2)))))) :
    JW x jtbM mX12_tenth (d + 1) (jI P) 80 [(0, .ref (x.2.2.2 0)), (1, .int l1), (2, .int l2), (4, .int l4), (5, .int l5)] [] M := by
  refine jw_iload (pc := 80) (j := 4) dX12_tenth_80 rfl ?_
  refine jw_bipush (pc := 82) (v := 8) dX12_tenth_82 rfl ?_
  refine jw_icmp_ge (pc := 84) (tgt := 194) dX12_tenth_84 (by decide) (fun c => ?_) (fun c => ?_)
  · replace h := h.1 c
    refine jw_iload (pc := 194) (j := 3) dX12_tenth_194 rfl ?_
    exact jw_iret (pc := 196) dX12_tenth_196 rfl ⟨_, rfl, h⟩
  · replace h := h.2 c
    refine jw_aload_n (pc := 87) (j := 0) dX12_tenth_87 rfl rfl ?_
    refine jw_iload (pc := 88) (j := 4) dX12_tenth_88 rfl ?_
    refine jw_aload_n (pc := 90) (j := 0) dX12_tenth_90 rfl rfl ?_
    refine jw_getR (pc := 91) (r := 5) dX12_tenth_91 sM_0 fl_X12_35 (by decide) rfl rfl ?_
    refine jw_iconst (pc := 94) (v := 0) dX12_tenth_94 rfl ?_
    refine jw_iald (pc := 95) (j := 0) dX12_tenth_95 sM_5 (by decide) rfl (by decide) ?_
    refine jw_aload_n (pc := 96) (j := 0) dX12_tenth_96 rfl rfl ?_
    refine jw_getR (pc := 97) (r := 5) dX12_tenth_97 sM_0 fl_X12_35 (by decide) rfl rfl ?_
    refine jw_iconst (pc := 100) (v := 1) dX12_tenth_100 rfl ?_
    refine jw_iald (pc := 101) (j := 1) dX12_tenth_101 sM_5 (by decide) rfl (by decide) ?_
    refine jw_callV (pc := 102) (m2 := mX12_stripsOf) (As := [.int l5, .int (M.1 5 0), .int (M.1 5 1)]) (st := []) dX12_tenth_102 sM_0 (by decide) rfl rfl gm_X12_stripsOf ml_X12_269 rfl (Nat.le_of_ble_eq_true rfl) (JC.mono h ?_)
    clear h
    rintro M1 _ ⟨r1, rfl, h⟩
    refine jw_st (st' := [.int r1]) rfl ?_
    refine jw_iload_n (pc := 105) (j := 2) dX12_tenth_105 rfl rfl ?_
    refine jw_icmp_ne (pc := 106) (tgt := 120) dX12_tenth_106 (by decide) (fun c => ?_) (fun c => ?_)
    · replace h := h.1 c
      refine jw_iconst (pc := 120) (v := 0) dX12_tenth_120 rfl ?_
      refine jw_istore (pc := 121) (ls' := [(6, .int (0 : Int32)), (0, .ref (x.2.2.2 0)), (1, .int l1), (2, .int l2), (4, .int l4), (5, .int l5)]) dX12_tenth_121 (by decide) rfl ?_
      refine jw_iconst (pc := 123) (v := 0) dX12_tenth_123 rfl ?_
      refine jw_istore (pc := 124) (ls' := [(7, .int (0 : Int32)), (6, .int (0 : Int32)), (0, .ref (x.2.2.2 0)), (1, .int l1), (2, .int l2), (4, .int l4), (5, .int l5)]) dX12_tenth_124 (by decide) rfl ?_
      exact jw_sub [2, 3, 4, 5, 6, 1, 0] rfl h
    · replace h := h.2 c
      refine jw_aload_n (pc := 109) (j := 0) dX12_tenth_109 rfl rfl ?_
      refine jw_callV (pc := 110) (m2 := mX12_cells) (As := []) (st := []) dX12_tenth_110 sM_0 (by decide) rfl rfl gm_X12_cells ml_X12_305 rfl (Nat.le_of_ble_eq_true rfl) (JC.mono h ?_)
      clear h
      rintro M2 _ ⟨r2, rfl, h⟩
      refine jw_st (st' := [.int r2]) rfl ?_
      refine jw_if_le (pc := 113) (tgt := 120) dX12_tenth_113 (by decide) (fun c => ?_) (fun c => ?_)
      · replace h := h.1 c
        refine jw_iconst (pc := 120) (v := 0) dX12_tenth_120 rfl ?_
        refine jw_istore (pc := 121) (ls' := [(6, .int (0 : Int32)), (0, .ref (x.2.2.2 0)), (1, .int l1), (2, .int l2), (4, .int l4), (5, .int l5)]) dX12_tenth_121 (by decide) rfl ?_
        refine jw_iconst (pc := 123) (v := 0) dX12_tenth_123 rfl ?_
        refine jw_istore (pc := 124) (ls' := [(7, .int (0 : Int32)), (6, .int (0 : Int32)), (0, .ref (x.2.2.2 0)), (1, .int l1), (2, .int l2), (4, .int l4), (5, .int l5)]) dX12_tenth_124 (by decide) rfl ?_
        exact jw_sub [2, 3, 4, 5, 6, 1, 0] rfl h
      · replace h := h.2 c
        refine jw_iconst (pc := 116) (v := 1) dX12_tenth_116 rfl ?_
        refine jw_goto (pc := 117) (tgt := 121) dX12_tenth_117 (by decide) ?_
        refine jw_istore (pc := 121) (ls' := [(6, .int (1 : Int32)), (0, .ref (x.2.2.2 0)), (1, .int l1), (2, .int l2), (4, .int l4), (5, .int l5)]) dX12_tenth_121 (by decide) rfl ?_
        refine jw_iconst (pc := 123) (v := 0) dX12_tenth_123 rfl ?_
        refine jw_istore (pc := 124) (ls' := [(7, .int (0 : Int32)), (6, .int (1 : Int32)), (0, .ref (x.2.2.2 0)), (1, .int l1), (2, .int l2), (4, .int l4), (5, .int l5)]) dX12_tenth_124 (by decide) rfl ?_
        exact jw_sub [2, 3, 4, 5, 6, 1, 0] rfl h
set_option maxRecDepth 20000 in
theorem b_X12_tenth_126 {x : jX} {d : Nat} {M : jM} {P : jM → Int32 → Prop} {l1 : Int32} {l2 : Int32} {l4 : Int32} {l5 : Int32} {l6 : Int32} {l7 : Int32} 
    (h : (l2 ≤ l7 → JW x jtbM mX12_tenth (d + 1) (jI P) 170 [(0, .ref (x.2.2.2 0)), (1, .int l1), (2, .int l2), (4, .int l4), (5, .int l5), (6, .int l6)] [] M) ∧ (¬ l2 ≤ l7 → (l6 = 0 → JW x jtbM mX12_tenth (d + 1) (jI P) 170 [(0, .ref (x.2.2.2 0)), (1, .int l1), (2, .int l2), (4, .int l4), (5, .int l5), (6, .int l6)] [] M) ∧ (¬ l6 = 0 → JC x jtbM mX12_seenFrom d [.ref (x.2.2.2 0), .int l5, .int l7] M (jI fun M1 r1 => JC x jtbM mX12_numberOf d [.ref (x.2.2.2 0), .int l1, .int l7] M1 (jL fun M2 r2 => (¬ r1.toInt64 = r2 → JW x jtbM mX12_tenth (d + 1) (jI P) 126 [(0, .ref (x.2.2.2 0)), (1, .int l1), (2, .int l2), (4, .int l4), (5, .int l5), (6, .int (0 : Int32)), (7, .int (l7 + 1))] [] M2) ∧ (r1.toInt64 = r2 → JW x jtbM mX12_tenth (d + 1) (jI P) 126 [(0, .ref (x.2.2.2 0)), (1, .int l1), (2, .int l2), (4, .int l4), (5, .int l5), (6, .int (1 : Int32)), (7, .int (l7 + 1))] [] M2)))))) :
    JW x jtbM mX12_tenth (d + 1) (jI P) 126 [(0, .ref (x.2.2.2 0)), (1, .int l1), (2, .int l2), (4, .int l4), (5, .int l5), (6, .int l6), (7, .int l7)] [] M := by
  refine jw_iload (pc := 126) (j := 6) dX12_tenth_126 rfl ?_
  refine jw_iload_n (pc := 128) (j := 2) dX12_tenth_128 rfl rfl ?_
  refine jw_icmp_ge (pc := 129) (tgt := 170) dX12_tenth_129 (by decide) (fun c => ?_) (fun c => ?_)
  · replace h := h.1 c
    exact jw_sub [0, 1, 2, 3, 4, 5] rfl h
  · replace h := h.2 c
    refine jw_iload (pc := 132) (j := 5) dX12_tenth_132 rfl ?_
    refine jw_if_eq (pc := 134) (tgt := 170) dX12_tenth_134 (by decide) (fun c => ?_) (fun c => ?_)
    · replace h := h.1 c
      exact jw_sub [0, 1, 2, 3, 4, 5] rfl h
    · replace h := h.2 c
      refine jw_aload_n (pc := 137) (j := 0) dX12_tenth_137 rfl rfl ?_
      refine jw_iload (pc := 138) (j := 4) dX12_tenth_138 rfl ?_
      refine jw_iload (pc := 140) (j := 6) dX12_tenth_140 rfl ?_
      refine jw_callV (pc := 142) (m2 := mX12_seenFrom) (As := [.int l5, .int l7]) (st := []) dX12_tenth_142 sM_0 (by decide) rfl rfl gm_X12_seenFrom ml_X12_345 rfl (Nat.le_of_ble_eq_true rfl) (JC.mono h ?_)
      clear h
      rintro M1 _ ⟨r1, rfl, h⟩
      refine jw_st (st' := [.int r1]) rfl ?_
      refine jw_i2l (pc := 145) dX12_tenth_145 ?_
      refine jw_aload_n (pc := 146) (j := 0) dX12_tenth_146 rfl rfl ?_
      refine jw_iload_n (pc := 147) (j := 1) dX12_tenth_147 rfl rfl ?_
      refine jw_iload (pc := 148) (j := 6) dX12_tenth_148 rfl ?_
      refine jw_callV (pc := 150) (m2 := mX12_numberOf) (As := [.int l1, .int l7]) (st := [.long r1.toInt64]) dX12_tenth_150 sM_0 (by decide) rfl rfl gm_X12_numberOf ml_X12_332 rfl (Nat.le_of_ble_eq_true rfl) (JC.mono h ?_)
      clear h
      rintro M2 _ ⟨r2, rfl, h⟩
      refine jw_st (st' := [.long r2, .long r1.toInt64]) rfl ?_
      refine jw_lcmp (pc := 153) dX12_tenth_153 ?_
      refine jw_if_ne (pc := 154) (tgt := 161) dX12_tenth_154 (by decide) (fun c => ?_) (fun c => ?_)
      · replace h := h.1 (fun z => c ((jcmp_eq _ _).mpr z))
        refine jw_iconst (pc := 161) (v := 0) dX12_tenth_161 rfl ?_
        refine jw_istore (pc := 162) (ls' := [(6, .int (0 : Int32)), (0, .ref (x.2.2.2 0)), (1, .int l1), (2, .int l2), (4, .int l4), (5, .int l5), (7, .int l7)]) dX12_tenth_162 (by decide) rfl ?_
        refine jw_iinc (pc := 164) (j := 6) (u := l7 + 1) (ls' := [(7, .int (l7 + 1)), (6, .int (0 : Int32)), (0, .ref (x.2.2.2 0)), (1, .int l1), (2, .int l2), (4, .int l4), (5, .int l5)]) dX12_tenth_164 rfl rfl (by decide) rfl ?_
        refine jw_goto (pc := 167) (tgt := 126) dX12_tenth_167 (by decide) ?_
        exact jw_sub [2, 3, 4, 5, 6, 1, 0] rfl h
      · replace h := h.2 ((jcmp_eq _ _).mp c)
        refine jw_iconst (pc := 157) (v := 1) dX12_tenth_157 rfl ?_
        refine jw_goto (pc := 158) (tgt := 162) dX12_tenth_158 (by decide) ?_
        refine jw_istore (pc := 162) (ls' := [(6, .int (1 : Int32)), (0, .ref (x.2.2.2 0)), (1, .int l1), (2, .int l2), (4, .int l4), (5, .int l5), (7, .int l7)]) dX12_tenth_162 (by decide) rfl ?_
        refine jw_iinc (pc := 164) (j := 6) (u := l7 + 1) (ls' := [(7, .int (l7 + 1)), (6, .int (1 : Int32)), (0, .ref (x.2.2.2 0)), (1, .int l1), (2, .int l2), (4, .int l4), (5, .int l5)]) dX12_tenth_164 rfl rfl (by decide) rfl ?_
        refine jw_goto (pc := 167) (tgt := 126) dX12_tenth_167 (by decide) ?_
        exact jw_sub [2, 3, 4, 5, 6, 1, 0] rfl h
set_option maxRecDepth 20000 in
theorem b_X12_tenth_170 {x : jX} {d : Nat} {M : jM} {P : jM → Int32 → Prop} {l1 : Int32} {l2 : Int32} {l4 : Int32} {l5 : Int32} {l6 : Int32} 
    (h : (l6 = 0 → JW x jtbM mX12_tenth (d + 1) (jI P) 80 [(0, .ref (x.2.2.2 0)), (1, .int l1), (2, .int l2), (4, .int (l4 ||| (0 : Int32))), (5, .int (l5 + 1))] [] M) ∧ (¬ l6 = 0 → JW x jtbM mX12_tenth (d + 1) (jI P) 80 [(0, .ref (x.2.2.2 0)), (1, .int l1), (2, .int l2), (4, .int (l4 ||| ((1 : Int32) <<< (l5 &&& 31)))), (5, .int (l5 + 1))] [] M)) :
    JW x jtbM mX12_tenth (d + 1) (jI P) 170 [(0, .ref (x.2.2.2 0)), (1, .int l1), (2, .int l2), (4, .int l4), (5, .int l5), (6, .int l6)] [] M := by
  refine jw_iload (pc := 170) (j := 3) dX12_tenth_170 rfl ?_
  refine jw_iload (pc := 172) (j := 5) dX12_tenth_172 rfl ?_
  refine jw_if_eq (pc := 174) (tgt := 184) dX12_tenth_174 (by decide) (fun c => ?_) (fun c => ?_)
  · replace h := h.1 c
    refine jw_iconst (pc := 184) (v := 0) dX12_tenth_184 rfl ?_
    refine jw_ior (pc := 185) dX12_tenth_185 ?_
    refine jw_istore (pc := 186) (ls' := [(4, .int (l4 ||| (0 : Int32))), (0, .ref (x.2.2.2 0)), (1, .int l1), (2, .int l2), (5, .int l5), (6, .int l6)]) dX12_tenth_186 (by decide) rfl ?_
    refine jw_iinc (pc := 188) (j := 4) (u := l5 + 1) (ls' := [(5, .int (l5 + 1)), (4, .int (l4 ||| (0 : Int32))), (0, .ref (x.2.2.2 0)), (1, .int l1), (2, .int l2), (6, .int l6)]) dX12_tenth_188 rfl rfl (by decide) rfl ?_
    refine jw_goto (pc := 191) (tgt := 80) dX12_tenth_191 (by decide) ?_
    exact jw_sub [2, 3, 4, 1, 0] rfl h
  · replace h := h.2 c
    refine jw_iconst (pc := 177) (v := 1) dX12_tenth_177 rfl ?_
    refine jw_iload (pc := 178) (j := 4) dX12_tenth_178 rfl ?_
    refine jw_ishl (pc := 180) dX12_tenth_180 ?_
    refine jw_goto (pc := 181) (tgt := 185) dX12_tenth_181 (by decide) ?_
    refine jw_ior (pc := 185) dX12_tenth_185 ?_
    refine jw_istore (pc := 186) (ls' := [(4, .int (l4 ||| ((1 : Int32) <<< (l5 &&& 31)))), (0, .ref (x.2.2.2 0)), (1, .int l1), (2, .int l2), (5, .int l5), (6, .int l6)]) dX12_tenth_186 (by decide) rfl ?_
    refine jw_iinc (pc := 188) (j := 4) (u := l5 + 1) (ls' := [(5, .int (l5 + 1)), (4, .int (l4 ||| ((1 : Int32) <<< (l5 &&& 31)))), (0, .ref (x.2.2.2 0)), (1, .int l1), (2, .int l2), (6, .int l6)]) dX12_tenth_188 rfl rfl (by decide) rfl ?_
    refine jw_goto (pc := 191) (tgt := 80) dX12_tenth_191 (by decide) ?_
    exact jw_sub [2, 3, 4, 1, 0] rfl h
set_option maxRecDepth 20000 in
theorem b_X12_isAsSeen {x : jX} {d : Nat} {M : jM} {P : jM → Bool → Prop} {a1 : Int32} 
    (h : JW x jtbM mX12_isAsSeen (d + 1) (jZ P) 2 [(0, .ref (x.2.2.2 0)), (1, .int a1), (2, .int (0 : Int32))] [] M) :
    JC x jtbM mX12_isAsSeen (d + 1) [.ref (x.2.2.2 0), .int a1] M (jZ P) := by
  refine JC.of rfl (Nat.le_of_ble_eq_true rfl) ?_
  refine jw_ls (ls' := [(0, .ref (x.2.2.2 0)), (1, .int a1)]) rfl ?_
  refine jw_iconst (pc := 0) (v := 0) dX12_isAsSeen_0 rfl ?_
  refine jw_istore_n (pc := 1) (ls' := [(2, .int (0 : Int32)), (0, .ref (x.2.2.2 0)), (1, .int a1)]) dX12_isAsSeen_1 rfl (by decide) rfl ?_
  exact jw_sub [1, 2, 0] rfl h
set_option maxRecDepth 20000 in
theorem b_X12_isAsSeen_2 {x : jX} {d : Nat} {M : jM} {P : jM → Bool → Prop} {l1 : Int32} {l2 : Int32} 
    (h : ((M.1 0 40) ≤ l2 → JW x jtbM mX12_isAsSeen (d + 1) (jZ P) 69 [(0, .ref (x.2.2.2 0)), (2, .int (1 : Int32)), (3, .int (0 : Int32))] [] M) ∧ (¬ (M.1 0 40) ≤ l2 → ∃ j1, j1 < 12 ∧ l2 = nI j1 ∧ (JC x jtbM mX12_has d [.ref (x.2.2.2 0), .int l1, .int l2] M (jZ fun M1 b1 => (b1 = false → ∃ j2, j2 < 25 ∧ M1.1 12 j1 = nI j2 ∧ (∃ j3, j3 < 2060 ∧ (144 : Int32) + (M.1 12 j1) = nI j3 ∧ (∀ M2, M2 = jrI M1 5 (upd (M1.1 5) j3 (M1.1 17 j2)) → JW x jtbM mX12_isAsSeen (d + 1) (jZ P) 2 [(0, .ref (x.2.2.2 0)), (1, .int l1), (2, .int (l2 + 1))] [] M2))) ∧ (b1 = true → ∃ j4, j4 < 25 ∧ M1.1 12 j1 = nI j4 ∧ (∃ j5, j5 < 2060 ∧ (144 : Int32) + (M.1 12 j1) = nI j5 ∧ (∀ M3, M3 = jrI M1 5 (upd (M1.1 5) j5 (M1.1 14 j4)) → JW x jtbM mX12_isAsSeen (d + 1) (jZ P) 2 [(0, .ref (x.2.2.2 0)), (1, .int l1), (2, .int (l2 + 1))] [] M3))))))) :
    JW x jtbM mX12_isAsSeen (d + 1) (jZ P) 2 [(0, .ref (x.2.2.2 0)), (1, .int l1), (2, .int l2)] [] M := by
  refine jw_iload_n (pc := 2) (j := 2) dX12_isAsSeen_2 rfl rfl ?_
  refine jw_aload_n (pc := 3) (j := 0) dX12_isAsSeen_3 rfl rfl ?_
  refine jw_getI (pc := 4) dX12_isAsSeen_4 sM_0 fl_X12_433 (by decide) rfl ?_
  refine jw_icmp_ge (pc := 7) (tgt := 65) dX12_isAsSeen_7 (by decide) (fun c => ?_) (fun c => ?_)
  · replace h := h.1 c
    refine jw_iconst (pc := 65) (v := 1) dX12_isAsSeen_65 rfl ?_
    refine jw_istore_n (pc := 66) (ls' := [(2, .int (1 : Int32)), (0, .ref (x.2.2.2 0)), (1, .int l1)]) dX12_isAsSeen_66 rfl (by decide) rfl ?_
    refine jw_iconst (pc := 67) (v := 0) dX12_isAsSeen_67 rfl ?_
    refine jw_istore_n (pc := 68) (ls' := [(3, .int (0 : Int32)), (2, .int (1 : Int32)), (0, .ref (x.2.2.2 0)), (1, .int l1)]) dX12_isAsSeen_68 rfl (by decide) rfl ?_
    exact jw_sub [2, 1, 0] rfl h
  · replace h := h.2 c
    refine jw_aload_n (pc := 10) (j := 0) dX12_isAsSeen_10 rfl rfl ?_
    refine jw_getR (pc := 11) (r := 5) dX12_isAsSeen_11 sM_0 fl_X12_35 (by decide) rfl rfl ?_
    refine jw_sipush (pc := 14) (v := 144) dX12_isAsSeen_14 rfl ?_
    refine jw_aload_n (pc := 17) (j := 0) dX12_isAsSeen_17 rfl rfl ?_
    refine jw_getR (pc := 18) (r := 12) dX12_isAsSeen_18 sM_0 fl_X12_57 (by decide) rfl rfl ?_
    refine jw_iload_n (pc := 21) (j := 2) dX12_isAsSeen_21 rfl rfl ?_
    obtain ⟨j1, hj1, ej1, h⟩ := h
    refine jw_iald (pc := 22) (j := j1) dX12_isAsSeen_22 sM_12 hj1 ej1 (by decide) ?_
    refine jw_iadd (pc := 23) dX12_isAsSeen_23 ?_
    refine jw_aload_n (pc := 24) (j := 0) dX12_isAsSeen_24 rfl rfl ?_
    refine jw_iload_n (pc := 25) (j := 1) dX12_isAsSeen_25 rfl rfl ?_
    refine jw_iload_n (pc := 26) (j := 2) dX12_isAsSeen_26 rfl rfl ?_
    refine jw_callV (pc := 27) (m2 := mX12_has) (As := [.int l1, .int l2]) (st := [.int ((144 : Int32) + (M.1 12 j1)), .ref (x.2.2.2 5)]) dX12_isAsSeen_27 sM_0 (by decide) rfl rfl gm_X12_has ml_X12_381 rfl (Nat.le_of_ble_eq_true rfl) (JC.mono h ?_)
    clear h
    rintro M1 _ ⟨b1, rfl, h⟩
    refine jw_st (st' := [.int (jb b1), .int ((144 : Int32) + (M.1 12 j1)), .ref (x.2.2.2 5)]) rfl ?_
    refine jw_if_eq (pc := 30) (tgt := 47) dX12_isAsSeen_30 (by decide) (fun c => ?_) (fun c => ?_)
    · replace h := h.1 ((jb_0 _).mp c)
      refine jw_aload_n (pc := 47) (j := 0) dX12_isAsSeen_47 rfl rfl ?_
      refine jw_getR (pc := 48) (r := 17) dX12_isAsSeen_48 sM_0 fl_X12_72 (by decide) rfl rfl ?_
      refine jw_aload_n (pc := 51) (j := 0) dX12_isAsSeen_51 rfl rfl ?_
      refine jw_getR (pc := 52) (r := 12) dX12_isAsSeen_52 sM_0 fl_X12_57 (by decide) rfl rfl ?_
      refine jw_iload_n (pc := 55) (j := 2) dX12_isAsSeen_55 rfl rfl ?_
      refine jw_iald (pc := 56) (j := j1) dX12_isAsSeen_56 sM_12 hj1 ej1 (by decide) ?_
      obtain ⟨j2, hj2, ej2, h⟩ := h
      refine jw_iald (pc := 57) (j := j2) dX12_isAsSeen_57 sM_17 hj2 ej2 (by decide) ?_
      obtain ⟨j3, hj3, ej3, h⟩ := h
      refine jw_iast (pc := 58) (j := j3) dX12_isAsSeen_58 sM_5 hj3 ej3 (by decide) ?_
      replace h := h _ rfl
      generalize jrI M1 5 (upd (M1.1 5) j3 (M1.1 17 j2)) = M2 at h ⊢
      refine jw_iinc (pc := 59) (j := 2) (u := l2 + 1) (ls' := [(2, .int (l2 + 1)), (0, .ref (x.2.2.2 0)), (1, .int l1)]) dX12_isAsSeen_59 rfl rfl (by decide) rfl ?_
      refine jw_goto (pc := 62) (tgt := 2) dX12_isAsSeen_62 (by decide) ?_
      exact jw_sub [1, 2, 0] rfl h
    · replace h := h.2 (jb_ne c)
      refine jw_aload_n (pc := 33) (j := 0) dX12_isAsSeen_33 rfl rfl ?_
      refine jw_getR (pc := 34) (r := 14) dX12_isAsSeen_34 sM_0 fl_X12_63 (by decide) rfl rfl ?_
      refine jw_aload_n (pc := 37) (j := 0) dX12_isAsSeen_37 rfl rfl ?_
      refine jw_getR (pc := 38) (r := 12) dX12_isAsSeen_38 sM_0 fl_X12_57 (by decide) rfl rfl ?_
      refine jw_iload_n (pc := 41) (j := 2) dX12_isAsSeen_41 rfl rfl ?_
      refine jw_iald (pc := 42) (j := j1) dX12_isAsSeen_42 sM_12 hj1 ej1 (by decide) ?_
      obtain ⟨j4, hj4, ej4, h⟩ := h
      refine jw_iald (pc := 43) (j := j4) dX12_isAsSeen_43 sM_14 hj4 ej4 (by decide) ?_
      refine jw_goto (pc := 44) (tgt := 58) dX12_isAsSeen_44 (by decide) ?_
      obtain ⟨j5, hj5, ej5, h⟩ := h
      refine jw_iast (pc := 58) (j := j5) dX12_isAsSeen_58 sM_5 hj5 ej5 (by decide) ?_
      replace h := h _ rfl
      generalize jrI M1 5 (upd (M1.1 5) j5 (M1.1 14 j4)) = M3 at h ⊢
      refine jw_iinc (pc := 59) (j := 2) (u := l2 + 1) (ls' := [(2, .int (l2 + 1)), (0, .ref (x.2.2.2 0)), (1, .int l1)]) dX12_isAsSeen_59 rfl rfl (by decide) rfl ?_
      refine jw_goto (pc := 62) (tgt := 2) dX12_isAsSeen_62 (by decide) ?_
      exact jw_sub [1, 2, 0] rfl h
set_option maxRecDepth 20000 in
theorem b_X12_isAsSeen_69 {x : jX} {d : Nat} {M : jM} {P : jM → Bool → Prop} {l2 : Int32} {l3 : Int32} 
    (h : ((M.1 5 2) ≤ l3 → JW x jtbM mX12_isAsSeen (d + 1) (jZ P) 150 [(0, .ref (x.2.2.2 0)), (2, .int l2), (3, .int (0 : Int32))] [] M) ∧ (¬ (M.1 5 2) ≤ l3 → (l2 = 0 → JW x jtbM mX12_isAsSeen (d + 1) (jZ P) 150 [(0, .ref (x.2.2.2 0)), (2, .int l2), (3, .int (0 : Int32))] [] M) ∧ (¬ l2 = 0 → JW x jtbM mX12_isAsSeen (d + 1) (jZ P) 86 [(0, .ref (x.2.2.2 0)), (2, .int l2), (3, .int l3), (4, .int (0 : Int32))] [] M))) :
    JW x jtbM mX12_isAsSeen (d + 1) (jZ P) 69 [(0, .ref (x.2.2.2 0)), (2, .int l2), (3, .int l3)] [] M := by
  refine jw_iload_n (pc := 69) (j := 2) dX12_isAsSeen_69 rfl rfl ?_
  refine jw_aload_n (pc := 70) (j := 0) dX12_isAsSeen_70 rfl rfl ?_
  refine jw_getR (pc := 71) (r := 5) dX12_isAsSeen_71 sM_0 fl_X12_35 (by decide) rfl rfl ?_
  refine jw_iconst (pc := 74) (v := 2) dX12_isAsSeen_74 rfl ?_
  refine jw_iald (pc := 75) (j := 2) dX12_isAsSeen_75 sM_5 (by decide) rfl (by decide) ?_
  refine jw_icmp_ge (pc := 76) (tgt := 148) dX12_isAsSeen_76 (by decide) (fun c => ?_) (fun c => ?_)
  · replace h := h.1 c
    refine jw_iconst (pc := 148) (v := 0) dX12_isAsSeen_148 rfl ?_
    refine jw_istore_n (pc := 149) (ls' := [(3, .int (0 : Int32)), (0, .ref (x.2.2.2 0)), (2, .int l2)]) dX12_isAsSeen_149 rfl (by decide) rfl ?_
    exact jw_sub [1, 2, 0] rfl h
  · replace h := h.2 c
    refine jw_iload_n (pc := 79) (j := 1) dX12_isAsSeen_79 rfl rfl ?_
    refine jw_if_eq (pc := 80) (tgt := 148) dX12_isAsSeen_80 (by decide) (fun c => ?_) (fun c => ?_)
    · replace h := h.1 c
      refine jw_iconst (pc := 148) (v := 0) dX12_isAsSeen_148 rfl ?_
      refine jw_istore_n (pc := 149) (ls' := [(3, .int (0 : Int32)), (0, .ref (x.2.2.2 0)), (2, .int l2)]) dX12_isAsSeen_149 rfl (by decide) rfl ?_
      exact jw_sub [1, 2, 0] rfl h
    · replace h := h.2 c
      refine jw_iconst (pc := 83) (v := 0) dX12_isAsSeen_83 rfl ?_
      refine jw_istore (pc := 84) (ls' := [(4, .int (0 : Int32)), (0, .ref (x.2.2.2 0)), (2, .int l2), (3, .int l3)]) dX12_isAsSeen_84 (by decide) rfl ?_
      exact jw_sub [1, 2, 3, 0] rfl h
set_option maxRecDepth 20000 in
theorem b_X12_isAsSeen_86 {x : jX} {d : Nat} {M : jM} {P : jM → Bool → Prop} {l2 : Int32} {l3 : Int32} {l4 : Int32} 
    (h : JC x jtbM mX12_strips d [.ref (x.2.2.2 0), .int l3] M (jI fun M1 r1 => (r1 ≤ l4 → JW x jtbM mX12_isAsSeen (d + 1) (jZ P) 69 [(0, .ref (x.2.2.2 0)), (2, .int l2), (3, .int (l3 + 1))] [] M1) ∧ (¬ r1 ≤ l4 → (l2 = 0 → JW x jtbM mX12_isAsSeen (d + 1) (jZ P) 86 [(0, .ref (x.2.2.2 0)), (2, .int (0 : Int32)), (3, .int l3), (4, .int (l4 + 1))] [] M1) ∧ (¬ l2 = 0 → ∃ j1, j1 < 2060 ∧ (78 : Int32) + l3 = nI j1 ∧ (JC x jtbM mX12_seenFrom d [.ref (x.2.2.2 0), .int (M1.1 5 j1), .int l4] M1 (jI fun M2 r2 => ∃ j2, j2 < 54 ∧ ((9 : Int32) * l3) + l4 = nI j2 ∧ ((¬ r2 = (M2.1 8 j2) → JW x jtbM mX12_isAsSeen (d + 1) (jZ P) 86 [(0, .ref (x.2.2.2 0)), (2, .int (0 : Int32)), (3, .int l3), (4, .int (l4 + 1))] [] M2) ∧ (r2 = (M2.1 8 j2) → JW x jtbM mX12_isAsSeen (d + 1) (jZ P) 86 [(0, .ref (x.2.2.2 0)), (2, .int (1 : Int32)), (3, .int l3), (4, .int (l4 + 1))] [] M2)))))))) :
    JW x jtbM mX12_isAsSeen (d + 1) (jZ P) 86 [(0, .ref (x.2.2.2 0)), (2, .int l2), (3, .int l3), (4, .int l4)] [] M := by
  refine jw_iload (pc := 86) (j := 3) dX12_isAsSeen_86 rfl ?_
  refine jw_aload_n (pc := 88) (j := 0) dX12_isAsSeen_88 rfl rfl ?_
  refine jw_iload_n (pc := 89) (j := 2) dX12_isAsSeen_89 rfl rfl ?_
  refine jw_callV (pc := 90) (m2 := mX12_strips) (As := [.int l3]) (st := [.int l4]) dX12_isAsSeen_90 sM_0 (by decide) rfl rfl gm_X12_strips ml_X12_311 rfl (Nat.le_of_ble_eq_true rfl) (JC.mono h ?_)
  clear h
  rintro M1 _ ⟨r1, rfl, h⟩
  refine jw_st (st' := [.int r1, .int l4]) rfl ?_
  refine jw_icmp_ge (pc := 93) (tgt := 142) dX12_isAsSeen_93 (by decide) (fun c => ?_) (fun c => ?_)
  · replace h := h.1 c
    refine jw_iinc (pc := 142) (j := 2) (u := l3 + 1) (ls' := [(3, .int (l3 + 1)), (0, .ref (x.2.2.2 0)), (2, .int l2), (4, .int l4)]) dX12_isAsSeen_142 rfl rfl (by decide) rfl ?_
    refine jw_goto (pc := 145) (tgt := 69) dX12_isAsSeen_145 (by decide) ?_
    exact jw_sub [1, 2, 0] rfl h
  · replace h := h.2 c
    refine jw_iload_n (pc := 96) (j := 1) dX12_isAsSeen_96 rfl rfl ?_
    refine jw_if_eq (pc := 97) (tgt := 134) dX12_isAsSeen_97 (by decide) (fun c => ?_) (fun c => ?_)
    · replace h := h.1 c
      refine jw_iconst (pc := 134) (v := 0) dX12_isAsSeen_134 rfl ?_
      refine jw_istore_n (pc := 135) (ls' := [(2, .int (0 : Int32)), (0, .ref (x.2.2.2 0)), (3, .int l3), (4, .int l4)]) dX12_isAsSeen_135 rfl (by decide) rfl ?_
      refine jw_iinc (pc := 136) (j := 3) (u := l4 + 1) (ls' := [(4, .int (l4 + 1)), (2, .int (0 : Int32)), (0, .ref (x.2.2.2 0)), (3, .int l3)]) dX12_isAsSeen_136 rfl rfl (by decide) rfl ?_
      refine jw_goto (pc := 139) (tgt := 86) dX12_isAsSeen_139 (by decide) ?_
      exact jw_sub [2, 1, 3, 0] rfl h
    · replace h := h.2 c
      refine jw_aload_n (pc := 100) (j := 0) dX12_isAsSeen_100 rfl rfl ?_
      refine jw_aload_n (pc := 101) (j := 0) dX12_isAsSeen_101 rfl rfl ?_
      refine jw_getR (pc := 102) (r := 5) dX12_isAsSeen_102 sM_0 fl_X12_35 (by decide) rfl rfl ?_
      refine jw_bipush (pc := 105) (v := 78) dX12_isAsSeen_105 rfl ?_
      refine jw_iload_n (pc := 107) (j := 2) dX12_isAsSeen_107 rfl rfl ?_
      refine jw_iadd (pc := 108) dX12_isAsSeen_108 ?_
      obtain ⟨j1, hj1, ej1, h⟩ := h
      refine jw_iald (pc := 109) (j := j1) dX12_isAsSeen_109 sM_5 hj1 ej1 (by decide) ?_
      refine jw_iload (pc := 110) (j := 3) dX12_isAsSeen_110 rfl ?_
      refine jw_callV (pc := 112) (m2 := mX12_seenFrom) (As := [.int (M1.1 5 j1), .int l4]) (st := []) dX12_isAsSeen_112 sM_0 (by decide) rfl rfl gm_X12_seenFrom ml_X12_345 rfl (Nat.le_of_ble_eq_true rfl) (JC.mono h ?_)
      clear h
      rintro M2 _ ⟨r2, rfl, h⟩
      refine jw_st (st' := [.int r2]) rfl ?_
      refine jw_aload_n (pc := 115) (j := 0) dX12_isAsSeen_115 rfl rfl ?_
      refine jw_getR (pc := 116) (r := 8) dX12_isAsSeen_116 sM_0 fl_X12_45 (by decide) rfl rfl ?_
      refine jw_bipush (pc := 119) (v := 9) dX12_isAsSeen_119 rfl ?_
      refine jw_iload_n (pc := 121) (j := 2) dX12_isAsSeen_121 rfl rfl ?_
      refine jw_imul (pc := 122) dX12_isAsSeen_122 ?_
      refine jw_iload (pc := 123) (j := 3) dX12_isAsSeen_123 rfl ?_
      refine jw_iadd (pc := 125) dX12_isAsSeen_125 ?_
      obtain ⟨j2, hj2, ej2, h⟩ := h
      refine jw_iald (pc := 126) (j := j2) dX12_isAsSeen_126 sM_8 hj2 ej2 (by decide) ?_
      refine jw_icmp_ne (pc := 127) (tgt := 134) dX12_isAsSeen_127 (by decide) (fun c => ?_) (fun c => ?_)
      · replace h := h.1 c
        refine jw_iconst (pc := 134) (v := 0) dX12_isAsSeen_134 rfl ?_
        refine jw_istore_n (pc := 135) (ls' := [(2, .int (0 : Int32)), (0, .ref (x.2.2.2 0)), (3, .int l3), (4, .int l4)]) dX12_isAsSeen_135 rfl (by decide) rfl ?_
        refine jw_iinc (pc := 136) (j := 3) (u := l4 + 1) (ls' := [(4, .int (l4 + 1)), (2, .int (0 : Int32)), (0, .ref (x.2.2.2 0)), (3, .int l3)]) dX12_isAsSeen_136 rfl rfl (by decide) rfl ?_
        refine jw_goto (pc := 139) (tgt := 86) dX12_isAsSeen_139 (by decide) ?_
        exact jw_sub [2, 1, 3, 0] rfl h
      · replace h := h.2 c
        refine jw_iconst (pc := 130) (v := 1) dX12_isAsSeen_130 rfl ?_
        refine jw_goto (pc := 131) (tgt := 135) dX12_isAsSeen_131 (by decide) ?_
        refine jw_istore_n (pc := 135) (ls' := [(2, .int (1 : Int32)), (0, .ref (x.2.2.2 0)), (3, .int l3), (4, .int l4)]) dX12_isAsSeen_135 rfl (by decide) rfl ?_
        refine jw_iinc (pc := 136) (j := 3) (u := l4 + 1) (ls' := [(4, .int (l4 + 1)), (2, .int (1 : Int32)), (0, .ref (x.2.2.2 0)), (3, .int l3)]) dX12_isAsSeen_136 rfl rfl (by decide) rfl ?_
        refine jw_goto (pc := 139) (tgt := 86) dX12_isAsSeen_139 (by decide) ?_
        exact jw_sub [2, 1, 3, 0] rfl h
set_option maxRecDepth 20000 in
theorem b_X12_isAsSeen_150 {x : jX} {d : Nat} {M : jM} {P : jM → Bool → Prop} {l2 : Int32} {l3 : Int32} 
    (h : ((M.1 0 40) ≤ l3 → ∃ b, l2 = jb b ∧ P M b) ∧ (¬ (M.1 0 40) ≤ l3 → ∃ j1, j1 < 12 ∧ l3 = nI j1 ∧ (∃ j2, j2 < 25 ∧ M.1 12 j1 = nI j2 ∧ (∃ j3, j3 < 2060 ∧ (144 : Int32) + (M.1 12 j1) = nI j3 ∧ (∀ M1, M1 = jrI M 5 (upd (M.1 5) j3 (M.1 17 j2)) → JW x jtbM mX12_isAsSeen (d + 1) (jZ P) 150 [(0, .ref (x.2.2.2 0)), (2, .int l2), (3, .int (l3 + 1))] [] M1))))) :
    JW x jtbM mX12_isAsSeen (d + 1) (jZ P) 150 [(0, .ref (x.2.2.2 0)), (2, .int l2), (3, .int l3)] [] M := by
  refine jw_iload_n (pc := 150) (j := 2) dX12_isAsSeen_150 rfl rfl ?_
  refine jw_aload_n (pc := 151) (j := 0) dX12_isAsSeen_151 rfl rfl ?_
  refine jw_getI (pc := 152) dX12_isAsSeen_152 sM_0 fl_X12_433 (by decide) rfl ?_
  refine jw_icmp_ge (pc := 155) (tgt := 190) dX12_isAsSeen_155 (by decide) (fun c => ?_) (fun c => ?_)
  · replace h := h.1 c
    refine jw_iload_n (pc := 190) (j := 1) dX12_isAsSeen_190 rfl rfl ?_
    obtain ⟨b, eb, h⟩ := h
    rw [eb]
    exact jw_zret (pc := 191) dX12_isAsSeen_191 rfl (jb_01 _) ⟨_, rfl, h⟩
  · replace h := h.2 c
    refine jw_aload_n (pc := 158) (j := 0) dX12_isAsSeen_158 rfl rfl ?_
    refine jw_getR (pc := 159) (r := 5) dX12_isAsSeen_159 sM_0 fl_X12_35 (by decide) rfl rfl ?_
    refine jw_sipush (pc := 162) (v := 144) dX12_isAsSeen_162 rfl ?_
    refine jw_aload_n (pc := 165) (j := 0) dX12_isAsSeen_165 rfl rfl ?_
    refine jw_getR (pc := 166) (r := 12) dX12_isAsSeen_166 sM_0 fl_X12_57 (by decide) rfl rfl ?_
    refine jw_iload_n (pc := 169) (j := 2) dX12_isAsSeen_169 rfl rfl ?_
    obtain ⟨j1, hj1, ej1, h⟩ := h
    refine jw_iald (pc := 170) (j := j1) dX12_isAsSeen_170 sM_12 hj1 ej1 (by decide) ?_
    refine jw_iadd (pc := 171) dX12_isAsSeen_171 ?_
    refine jw_aload_n (pc := 172) (j := 0) dX12_isAsSeen_172 rfl rfl ?_
    refine jw_getR (pc := 173) (r := 17) dX12_isAsSeen_173 sM_0 fl_X12_72 (by decide) rfl rfl ?_
    refine jw_aload_n (pc := 176) (j := 0) dX12_isAsSeen_176 rfl rfl ?_
    refine jw_getR (pc := 177) (r := 12) dX12_isAsSeen_177 sM_0 fl_X12_57 (by decide) rfl rfl ?_
    refine jw_iload_n (pc := 180) (j := 2) dX12_isAsSeen_180 rfl rfl ?_
    refine jw_iald (pc := 181) (j := j1) dX12_isAsSeen_181 sM_12 hj1 ej1 (by decide) ?_
    obtain ⟨j2, hj2, ej2, h⟩ := h
    refine jw_iald (pc := 182) (j := j2) dX12_isAsSeen_182 sM_17 hj2 ej2 (by decide) ?_
    obtain ⟨j3, hj3, ej3, h⟩ := h
    refine jw_iast (pc := 183) (j := j3) dX12_isAsSeen_183 sM_5 hj3 ej3 (by decide) ?_
    replace h := h _ rfl
    generalize jrI M 5 (upd (M.1 5) j3 (M.1 17 j2)) = M1 at h ⊢
    refine jw_iinc (pc := 184) (j := 2) (u := l3 + 1) (ls' := [(3, .int (l3 + 1)), (0, .ref (x.2.2.2 0)), (2, .int l2)]) dX12_isAsSeen_184 rfl rfl (by decide) rfl ?_
    refine jw_goto (pc := 187) (tgt := 150) dX12_isAsSeen_187 (by decide) ?_
    exact jw_sub [1, 2, 0] rfl h
set_option maxRecDepth 20000 in
theorem b_X12_order {x : jX} {d : Nat} {M : jM} {P : jM → Int32 → Prop} {a1 : Int32} 
    (h : ∀ M1, M1 = jrI M 0 (upd (M.1 0) 1 (0 : Int32)) → ∀ M2, M2 = jrI M1 0 (upd (M1.1 0) 0 (0 : Int32)) → JC x jtbM mX12_isTray d [.ref (x.2.2.2 0), .int a1] M2 (jZ fun M3 b1 => (b1 = true → ∃ j1, j1 < 4 ∧ a1 = nI j1 ∧ ((0 ≤ (M3.1 2 j1) → JC x jtbM mX12_cells d [.ref (x.2.2.2 0)] M3 (jI fun M4 r1 => JC x jtbM mX12_wrongRow d [.ref (x.2.2.2 0), .int a1, .int r1] M4 (jI fun M5 r2 => (r2 ≤ 0 → JW x jtbM mX12_order (d + 1) (jI P) 64 [(0, .ref (x.2.2.2 0)), (1, .int a1), (3, .int (0 : Int32)), (4, .int (0 : Int32))] [] M5) ∧ (¬ r2 ≤ 0 → JC x jtbM mX12_refuse d [.ref (x.2.2.2 0), .int r2] M5 (jI fun M6 r3 => P M6 r3))))) ∧ (¬ 0 ≤ (M3.1 2 j1) → JC x jtbM mX12_refuse d [.ref (x.2.2.2 0), .int (3 : Int32)] M3 (jI fun M7 r4 => P M7 r4)))) ∧ (b1 = false → JC x jtbM mX12_refuse d [.ref (x.2.2.2 0), .int (1 : Int32)] M3 (jI fun M8 r5 => P M8 r5)))) :
    JC x jtbM mX12_order (d + 1) [.ref (x.2.2.2 0), .int a1] M (jI P) := by
  refine JC.of rfl (Nat.le_of_ble_eq_true rfl) ?_
  refine jw_ls (ls' := [(0, .ref (x.2.2.2 0)), (1, .int a1)]) rfl ?_
  refine jw_aload_n (pc := 0) (j := 0) dX12_order_0 rfl rfl ?_
  refine jw_iconst (pc := 1) (v := 0) dX12_order_1 rfl ?_
  refine jw_putI (pc := 2) dX12_order_2 sM_0 fl_X12_81 fw_12_1 (by decide) rfl ?_
  replace h := h _ rfl
  generalize jrI M 0 (upd (M.1 0) 1 (0 : Int32)) = M1 at h ⊢
  refine jw_aload_n (pc := 5) (j := 0) dX12_order_5 rfl rfl ?_
  refine jw_iconst (pc := 6) (v := 0) dX12_order_6 rfl ?_
  refine jw_putI (pc := 7) dX12_order_7 sM_0 fl_X12_84 fw_12_0 (by decide) rfl ?_
  replace h := h _ rfl
  generalize jrI M1 0 (upd (M1.1 0) 0 (0 : Int32)) = M2 at h ⊢
  refine jw_aload_n (pc := 10) (j := 0) dX12_order_10 rfl rfl ?_
  refine jw_iload_n (pc := 11) (j := 1) dX12_order_11 rfl rfl ?_
  refine jw_callV (pc := 12) (m2 := mX12_isTray) (As := [.int a1]) (st := []) dX12_order_12 sM_0 (by decide) rfl rfl gm_X12_isTray ml_X12_336 rfl (Nat.le_of_ble_eq_true rfl) (JC.mono h ?_)
  clear h
  rintro M3 _ ⟨b1, rfl, h⟩
  refine jw_st (st' := [.int (jb b1)]) rfl ?_
  refine jw_if_ne (pc := 15) (tgt := 24) dX12_order_15 (by decide) (fun c => ?_) (fun c => ?_)
  · replace h := h.1 (jb_ne c)
    refine jw_aload_n (pc := 24) (j := 0) dX12_order_24 rfl rfl ?_
    refine jw_getR (pc := 25) (r := 2) dX12_order_25 sM_0 fl_X12_17 (by decide) rfl rfl ?_
    refine jw_iload_n (pc := 28) (j := 1) dX12_order_28 rfl rfl ?_
    obtain ⟨j1, hj1, ej1, h⟩ := h
    refine jw_iald (pc := 29) (j := j1) dX12_order_29 sM_2 hj1 ej1 (by decide) ?_
    refine jw_if_ge (pc := 30) (tgt := 39) dX12_order_30 (by decide) (fun c => ?_) (fun c => ?_)
    · replace h := h.1 c
      refine jw_aload_n (pc := 39) (j := 0) dX12_order_39 rfl rfl ?_
      refine jw_iload_n (pc := 40) (j := 1) dX12_order_40 rfl rfl ?_
      refine jw_aload_n (pc := 41) (j := 0) dX12_order_41 rfl rfl ?_
      refine jw_callV (pc := 42) (m2 := mX12_cells) (As := []) (st := [.int a1, .ref (x.2.2.2 0)]) dX12_order_42 sM_0 (by decide) rfl rfl gm_X12_cells ml_X12_305 rfl (Nat.le_of_ble_eq_true rfl) (JC.mono h ?_)
      clear h
      rintro M4 _ ⟨r1, rfl, h⟩
      refine jw_st (st' := [.int r1, .int a1, .ref (x.2.2.2 0)]) rfl ?_
      refine jw_callV (pc := 45) (m2 := mX12_wrongRow) (As := [.int a1, .int r1]) (st := []) dX12_order_45 sM_0 (by decide) rfl rfl gm_X12_wrongRow ml_X12_339 rfl (Nat.le_of_ble_eq_true rfl) (JC.mono h ?_)
      clear h
      rintro M5 _ ⟨r2, rfl, h⟩
      refine jw_st (st' := [.int r2]) rfl ?_
      refine jw_istore_n (pc := 48) (ls' := [(2, .int r2), (0, .ref (x.2.2.2 0)), (1, .int a1)]) dX12_order_48 rfl (by decide) rfl ?_
      refine jw_iload_n (pc := 49) (j := 0) dX12_order_49 rfl rfl ?_
      refine jw_if_le (pc := 50) (tgt := 59) dX12_order_50 (by decide) (fun c => ?_) (fun c => ?_)
      · replace h := h.1 c
        refine jw_iconst (pc := 59) (v := 0) dX12_order_59 rfl ?_
        refine jw_istore_n (pc := 60) (ls' := [(3, .int (0 : Int32)), (2, .int r2), (0, .ref (x.2.2.2 0)), (1, .int a1)]) dX12_order_60 rfl (by decide) rfl ?_
        refine jw_iconst (pc := 61) (v := 0) dX12_order_61 rfl ?_
        refine jw_istore (pc := 62) (ls' := [(4, .int (0 : Int32)), (3, .int (0 : Int32)), (2, .int r2), (0, .ref (x.2.2.2 0)), (1, .int a1)]) dX12_order_62 (by decide) rfl ?_
        exact jw_sub [3, 4, 1, 0] rfl h
      · replace h := h.2 c
        refine jw_aload_n (pc := 53) (j := 1) dX12_order_53 rfl rfl ?_
        refine jw_iload_n (pc := 54) (j := 0) dX12_order_54 rfl rfl ?_
        refine jw_callV (pc := 55) (m2 := mX12_refuse) (As := [.int r2]) (st := []) dX12_order_55 sM_0 (by decide) rfl rfl gm_X12_refuse ml_X12_316 rfl (Nat.le_of_ble_eq_true rfl) (JC.mono h ?_)
        clear h
        rintro M6 _ ⟨r3, rfl, h⟩
        refine jw_st (st' := [.int r3]) rfl ?_
        exact jw_iret (pc := 58) dX12_order_58 rfl ⟨_, rfl, h⟩
    · replace h := h.2 c
      refine jw_aload_n (pc := 33) (j := 0) dX12_order_33 rfl rfl ?_
      refine jw_iconst (pc := 34) (v := 3) dX12_order_34 rfl ?_
      refine jw_callV (pc := 35) (m2 := mX12_refuse) (As := [.int (3 : Int32)]) (st := []) dX12_order_35 sM_0 (by decide) rfl rfl gm_X12_refuse ml_X12_316 rfl (Nat.le_of_ble_eq_true rfl) (JC.mono h ?_)
      clear h
      rintro M7 _ ⟨r4, rfl, h⟩
      refine jw_st (st' := [.int r4]) rfl ?_
      exact jw_iret (pc := 38) dX12_order_38 rfl ⟨_, rfl, h⟩
  · replace h := h.2 ((jb_0 _).mp c)
    refine jw_aload_n (pc := 18) (j := 0) dX12_order_18 rfl rfl ?_
    refine jw_iconst (pc := 19) (v := 1) dX12_order_19 rfl ?_
    refine jw_callV (pc := 20) (m2 := mX12_refuse) (As := [.int (1 : Int32)]) (st := []) dX12_order_20 sM_0 (by decide) rfl rfl gm_X12_refuse ml_X12_316 rfl (Nat.le_of_ble_eq_true rfl) (JC.mono h ?_)
    clear h
    rintro M8 _ ⟨r5, rfl, h⟩
    refine jw_st (st' := [.int r5]) rfl ?_
    exact jw_iret (pc := 23) dX12_order_23 rfl ⟨_, rfl, h⟩
set_option maxRecDepth 20000 in
theorem b_X12_order_64 {x : jX} {d : Nat} {M : jM} {P : jM → Int32 → Prop} {l1 : Int32} {l3 : Int32} {l4 : Int32} 
    (h : JC x jtbM mX12_cells d [.ref (x.2.2.2 0)] M (jI fun M1 r1 => (r1 ≤ l4 → (l3 ≤ (12 : Int32) → ∀ M2, M2 = jrI M1 0 (upd (M1.1 0) 40 (0 : Int32)) → JW x jtbM mX12_order (d + 1) (jI P) 131 [(0, .ref (x.2.2.2 0)), (1, .int l1), (4, .int (0 : Int32))] [] M2) ∧ (¬ l3 ≤ (12 : Int32) → JC x jtbM mX12_refuse d [.ref (x.2.2.2 0), .int (7 : Int32)] M1 (jI fun M3 r2 => P M3 r2))) ∧ (¬ r1 ≤ l4 → JC x jtbM mX12_numberOf d [.ref (x.2.2.2 0), .int l1, .int l4] M1 (jL fun M4 r3 => ∃ j1, j1 < 2060 ∧ (144 : Int32) + l4 = nI j1 ∧ ((¬ r3 = ((M4.1 5 j1).toInt64) → JW x jtbM mX12_order (d + 1) (jI P) 64 [(0, .ref (x.2.2.2 0)), (1, .int l1), (3, .int (l3 + (1 : Int32))), (4, .int (l4 + 1))] [] M4) ∧ (r3 = ((M4.1 5 j1).toInt64) → JW x jtbM mX12_order (d + 1) (jI P) 64 [(0, .ref (x.2.2.2 0)), (1, .int l1), (3, .int (l3 + (0 : Int32))), (4, .int (l4 + 1))] [] M4)))))) :
    JW x jtbM mX12_order (d + 1) (jI P) 64 [(0, .ref (x.2.2.2 0)), (1, .int l1), (3, .int l3), (4, .int l4)] [] M := by
  refine jw_iload (pc := 64) (j := 3) dX12_order_64 rfl ?_
  refine jw_aload_n (pc := 66) (j := 0) dX12_order_66 rfl rfl ?_
  refine jw_callV (pc := 67) (m2 := mX12_cells) (As := []) (st := [.int l4]) dX12_order_67 sM_0 (by decide) rfl rfl gm_X12_cells ml_X12_305 rfl (Nat.le_of_ble_eq_true rfl) (JC.mono h ?_)
  clear h
  rintro M1 _ ⟨r1, rfl, h⟩
  refine jw_st (st' := [.int r1, .int l4]) rfl ?_
  refine jw_icmp_ge (pc := 70) (tgt := 110) dX12_order_70 (by decide) (fun c => ?_) (fun c => ?_)
  · replace h := h.1 c
    refine jw_iload_n (pc := 110) (j := 2) dX12_order_110 rfl rfl ?_
    refine jw_bipush (pc := 111) (v := 12) dX12_order_111 rfl ?_
    refine jw_icmp_le (pc := 113) (tgt := 123) dX12_order_113 (by decide) (fun c => ?_) (fun c => ?_)
    · replace h := h.1 c
      refine jw_aload_n (pc := 123) (j := 0) dX12_order_123 rfl rfl ?_
      refine jw_iconst (pc := 124) (v := 0) dX12_order_124 rfl ?_
      refine jw_putI (pc := 125) dX12_order_125 sM_0 fl_X12_433 fw_12_40 (by decide) rfl ?_
      replace h := h _ rfl
      generalize jrI M1 0 (upd (M1.1 0) 40 (0 : Int32)) = M2 at h ⊢
      refine jw_iconst (pc := 128) (v := 0) dX12_order_128 rfl ?_
      refine jw_istore (pc := 129) (ls' := [(4, .int (0 : Int32)), (0, .ref (x.2.2.2 0)), (1, .int l1), (3, .int l3)]) dX12_order_129 (by decide) rfl ?_
      exact jw_sub [1, 2, 0] rfl h
    · replace h := h.2 c
      refine jw_aload_n (pc := 116) (j := 0) dX12_order_116 rfl rfl ?_
      refine jw_bipush (pc := 117) (v := 7) dX12_order_117 rfl ?_
      refine jw_callV (pc := 119) (m2 := mX12_refuse) (As := [.int (7 : Int32)]) (st := []) dX12_order_119 sM_0 (by decide) rfl rfl gm_X12_refuse ml_X12_316 rfl (Nat.le_of_ble_eq_true rfl) (JC.mono h ?_)
      clear h
      rintro M3 _ ⟨r2, rfl, h⟩
      refine jw_st (st' := [.int r2]) rfl ?_
      exact jw_iret (pc := 122) dX12_order_122 rfl ⟨_, rfl, h⟩
  · replace h := h.2 c
    refine jw_iload_n (pc := 73) (j := 2) dX12_order_73 rfl rfl ?_
    refine jw_aload_n (pc := 74) (j := 0) dX12_order_74 rfl rfl ?_
    refine jw_iload_n (pc := 75) (j := 1) dX12_order_75 rfl rfl ?_
    refine jw_iload (pc := 76) (j := 3) dX12_order_76 rfl ?_
    refine jw_callV (pc := 78) (m2 := mX12_numberOf) (As := [.int l1, .int l4]) (st := [.int l3]) dX12_order_78 sM_0 (by decide) rfl rfl gm_X12_numberOf ml_X12_332 rfl (Nat.le_of_ble_eq_true rfl) (JC.mono h ?_)
    clear h
    rintro M4 _ ⟨r3, rfl, h⟩
    refine jw_st (st' := [.long r3, .int l3]) rfl ?_
    refine jw_aload_n (pc := 81) (j := 0) dX12_order_81 rfl rfl ?_
    refine jw_getR (pc := 82) (r := 5) dX12_order_82 sM_0 fl_X12_35 (by decide) rfl rfl ?_
    refine jw_sipush (pc := 85) (v := 144) dX12_order_85 rfl ?_
    refine jw_iload (pc := 88) (j := 3) dX12_order_88 rfl ?_
    refine jw_iadd (pc := 90) dX12_order_90 ?_
    obtain ⟨j1, hj1, ej1, h⟩ := h
    refine jw_iald (pc := 91) (j := j1) dX12_order_91 sM_5 hj1 ej1 (by decide) ?_
    refine jw_i2l (pc := 92) dX12_order_92 ?_
    refine jw_lcmp (pc := 93) dX12_order_93 ?_
    refine jw_if_ne (pc := 94) (tgt := 101) dX12_order_94 (by decide) (fun c => ?_) (fun c => ?_)
    · replace h := h.1 (fun z => c ((jcmp_eq _ _).mpr z))
      refine jw_iconst (pc := 101) (v := 1) dX12_order_101 rfl ?_
      refine jw_iadd (pc := 102) dX12_order_102 ?_
      refine jw_istore_n (pc := 103) (ls' := [(3, .int (l3 + (1 : Int32))), (0, .ref (x.2.2.2 0)), (1, .int l1), (4, .int l4)]) dX12_order_103 rfl (by decide) rfl ?_
      refine jw_iinc (pc := 104) (j := 3) (u := l4 + 1) (ls' := [(4, .int (l4 + 1)), (3, .int (l3 + (1 : Int32))), (0, .ref (x.2.2.2 0)), (1, .int l1)]) dX12_order_104 rfl rfl (by decide) rfl ?_
      refine jw_goto (pc := 107) (tgt := 64) dX12_order_107 (by decide) ?_
      exact jw_sub [2, 3, 1, 0] rfl h
    · replace h := h.2 ((jcmp_eq _ _).mp c)
      refine jw_iconst (pc := 97) (v := 0) dX12_order_97 rfl ?_
      refine jw_goto (pc := 98) (tgt := 102) dX12_order_98 (by decide) ?_
      refine jw_iadd (pc := 102) dX12_order_102 ?_
      refine jw_istore_n (pc := 103) (ls' := [(3, .int (l3 + (0 : Int32))), (0, .ref (x.2.2.2 0)), (1, .int l1), (4, .int l4)]) dX12_order_103 rfl (by decide) rfl ?_
      refine jw_iinc (pc := 104) (j := 3) (u := l4 + 1) (ls' := [(4, .int (l4 + 1)), (3, .int (l3 + (0 : Int32))), (0, .ref (x.2.2.2 0)), (1, .int l1)]) dX12_order_104 rfl rfl (by decide) rfl ?_
      refine jw_goto (pc := 107) (tgt := 64) dX12_order_107 (by decide) ?_
      exact jw_sub [2, 3, 1, 0] rfl h
set_option maxRecDepth 20000 in
theorem b_X12_order_131 {x : jX} {d : Nat} {M : jM} {P : jM → Int32 → Prop} {l1 : Int32} {l4 : Int32} 
    (h : JC x jtbM mX12_cells d [.ref (x.2.2.2 0)] M (jI fun M1 r1 => (r1 ≤ l4 → JC x jtbM mX12_askAsSeen d [.ref (x.2.2.2 0)] M1 (jV fun M2 => JW x jtbM mX12_order (d + 1) (jI P) 238 [(0, .ref (x.2.2.2 0)), (4, .int (((1 : Int32) <<< ((M2.1 0 40) &&& 31)) - (1 : Int32))), (5, .int (((1 : Int32) <<< ((M2.1 0 40) &&& 31)) - (1 : Int32)))] [] M2)) ∧ (¬ r1 ≤ l4 → ∃ j1, j1 < 2060 ∧ (144 : Int32) + l4 = nI j1 ∧ (∃ j2, j2 < 25 ∧ l4 = nI j2 ∧ (∀ M3, M3 = jrI M1 17 (upd (M1.1 17) j2 (M1.1 5 j1)) → JC x jtbM mX12_numberOf d [.ref (x.2.2.2 0), .int l1, .int l4] M3 (jL fun M4 r2 => ∀ M5, M5 = jrI M4 14 (upd (M4.1 14) j2 r2.toInt32) → (¬ (M5.1 17 j2) = (M5.1 14 j2) → ∃ j3, j3 < 12 ∧ M5.1 0 40 = nI j3 ∧ (∀ M6, M6 = jrI M5 12 (upd (M5.1 12) j3 l4) → ∀ M7, M7 = jrI M6 0 (upd (M6.1 0) 40 ((M6.1 0 40) + (1 : Int32))) → JW x jtbM mX12_order (d + 1) (jI P) 131 [(0, .ref (x.2.2.2 0)), (1, .int l1), (4, .int (l4 + 1))] [] M7)) ∧ ((M5.1 17 j2) = (M5.1 14 j2) → JW x jtbM mX12_order (d + 1) (jI P) 131 [(0, .ref (x.2.2.2 0)), (1, .int l1), (4, .int (l4 + 1))] [] M5))))))) :
    JW x jtbM mX12_order (d + 1) (jI P) 131 [(0, .ref (x.2.2.2 0)), (1, .int l1), (4, .int l4)] [] M := by
  refine jw_iload (pc := 131) (j := 2) dX12_order_131 rfl ?_
  refine jw_aload_n (pc := 133) (j := 0) dX12_order_133 rfl rfl ?_
  refine jw_callV (pc := 134) (m2 := mX12_cells) (As := []) (st := [.int l4]) dX12_order_134 sM_0 (by decide) rfl rfl gm_X12_cells ml_X12_305 rfl (Nat.le_of_ble_eq_true rfl) (JC.mono h ?_)
  clear h
  rintro M1 _ ⟨r1, rfl, h⟩
  refine jw_st (st' := [.int r1, .int l4]) rfl ?_
  refine jw_icmp_ge (pc := 137) (tgt := 220) dX12_order_137 (by decide) (fun c => ?_) (fun c => ?_)
  · replace h := h.1 c
    refine jw_aload_n (pc := 220) (j := 0) dX12_order_220 rfl rfl ?_
    refine jw_callV (pc := 221) (m2 := mX12_askAsSeen) (As := []) (st := []) dX12_order_221 sM_0 (by decide) rfl rfl gm_X12_askAsSeen ml_X12_415 rfl (Nat.le_of_ble_eq_true rfl) (JC.mono h ?_)
    clear h
    rintro M2 _ ⟨rfl, h⟩
    refine jw_st (st' := []) rfl ?_
    refine jw_iconst (pc := 224) (v := 1) dX12_order_224 rfl ?_
    refine jw_aload_n (pc := 225) (j := 0) dX12_order_225 rfl rfl ?_
    refine jw_getI (pc := 226) dX12_order_226 sM_0 fl_X12_433 (by decide) rfl ?_
    refine jw_ishl (pc := 229) dX12_order_229 ?_
    refine jw_iconst (pc := 230) (v := 1) dX12_order_230 rfl ?_
    refine jw_isub (pc := 231) dX12_order_231 ?_
    refine jw_istore (pc := 232) (ls' := [(4, .int (((1 : Int32) <<< ((M2.1 0 40) &&& 31)) - (1 : Int32))), (0, .ref (x.2.2.2 0)), (1, .int l1)]) dX12_order_232 (by decide) rfl ?_
    refine jw_iload (pc := 234) (j := 0) dX12_order_234 rfl ?_
    refine jw_istore (pc := 236) (ls' := [(5, .int (((1 : Int32) <<< ((M2.1 0 40) &&& 31)) - (1 : Int32))), (4, .int (((1 : Int32) <<< ((M2.1 0 40) &&& 31)) - (1 : Int32))), (0, .ref (x.2.2.2 0)), (1, .int l1)]) dX12_order_236 (by decide) rfl ?_
    exact jw_sub [2, 1, 0] rfl h
  · replace h := h.2 c
    refine jw_aload_n (pc := 140) (j := 0) dX12_order_140 rfl rfl ?_
    refine jw_getR (pc := 141) (r := 17) dX12_order_141 sM_0 fl_X12_72 (by decide) rfl rfl ?_
    refine jw_iload (pc := 144) (j := 2) dX12_order_144 rfl ?_
    refine jw_aload_n (pc := 146) (j := 0) dX12_order_146 rfl rfl ?_
    refine jw_getR (pc := 147) (r := 5) dX12_order_147 sM_0 fl_X12_35 (by decide) rfl rfl ?_
    refine jw_sipush (pc := 150) (v := 144) dX12_order_150 rfl ?_
    refine jw_iload (pc := 153) (j := 2) dX12_order_153 rfl ?_
    refine jw_iadd (pc := 155) dX12_order_155 ?_
    obtain ⟨j1, hj1, ej1, h⟩ := h
    refine jw_iald (pc := 156) (j := j1) dX12_order_156 sM_5 hj1 ej1 (by decide) ?_
    obtain ⟨j2, hj2, ej2, h⟩ := h
    refine jw_iast (pc := 157) (j := j2) dX12_order_157 sM_17 hj2 ej2 (by decide) ?_
    replace h := h _ rfl
    generalize jrI M1 17 (upd (M1.1 17) j2 (M1.1 5 j1)) = M3 at h ⊢
    refine jw_aload_n (pc := 158) (j := 0) dX12_order_158 rfl rfl ?_
    refine jw_getR (pc := 159) (r := 14) dX12_order_159 sM_0 fl_X12_63 (by decide) rfl rfl ?_
    refine jw_iload (pc := 162) (j := 2) dX12_order_162 rfl ?_
    refine jw_aload_n (pc := 164) (j := 0) dX12_order_164 rfl rfl ?_
    refine jw_iload_n (pc := 165) (j := 1) dX12_order_165 rfl rfl ?_
    refine jw_iload (pc := 166) (j := 2) dX12_order_166 rfl ?_
    refine jw_callV (pc := 168) (m2 := mX12_numberOf) (As := [.int l1, .int l4]) (st := [.int l4, .ref (x.2.2.2 14)]) dX12_order_168 sM_0 (by decide) rfl rfl gm_X12_numberOf ml_X12_332 rfl (Nat.le_of_ble_eq_true rfl) (JC.mono h ?_)
    clear h
    rintro M4 _ ⟨r2, rfl, h⟩
    refine jw_st (st' := [.long r2, .int l4, .ref (x.2.2.2 14)]) rfl ?_
    refine jw_l2i (pc := 171) dX12_order_171 ?_
    refine jw_iast (pc := 172) (j := j2) dX12_order_172 sM_14 hj2 ej2 (by decide) ?_
    replace h := h _ rfl
    generalize jrI M4 14 (upd (M4.1 14) j2 r2.toInt32) = M5 at h ⊢
    refine jw_aload_n (pc := 173) (j := 0) dX12_order_173 rfl rfl ?_
    refine jw_getR (pc := 174) (r := 17) dX12_order_174 sM_0 fl_X12_72 (by decide) rfl rfl ?_
    refine jw_iload (pc := 177) (j := 2) dX12_order_177 rfl ?_
    refine jw_iald (pc := 179) (j := j2) dX12_order_179 sM_17 hj2 ej2 (by decide) ?_
    refine jw_aload_n (pc := 180) (j := 0) dX12_order_180 rfl rfl ?_
    refine jw_getR (pc := 181) (r := 14) dX12_order_181 sM_0 fl_X12_63 (by decide) rfl rfl ?_
    refine jw_iload (pc := 184) (j := 2) dX12_order_184 rfl ?_
    refine jw_iald (pc := 186) (j := j2) dX12_order_186 sM_14 hj2 ej2 (by decide) ?_
    refine jw_icmp_ne (pc := 187) (tgt := 193) dX12_order_187 (by decide) (fun c => ?_) (fun c => ?_)
    · replace h := h.1 c
      refine jw_aload_n (pc := 193) (j := 0) dX12_order_193 rfl rfl ?_
      refine jw_getR (pc := 194) (r := 12) dX12_order_194 sM_0 fl_X12_57 (by decide) rfl rfl ?_
      refine jw_aload_n (pc := 197) (j := 0) dX12_order_197 rfl rfl ?_
      refine jw_getI (pc := 198) dX12_order_198 sM_0 fl_X12_433 (by decide) rfl ?_
      refine jw_iload (pc := 201) (j := 2) dX12_order_201 rfl ?_
      obtain ⟨j3, hj3, ej3, h⟩ := h
      refine jw_iast (pc := 203) (j := j3) dX12_order_203 sM_12 hj3 ej3 (by decide) ?_
      replace h := h _ rfl
      generalize jrI M5 12 (upd (M5.1 12) j3 l4) = M6 at h ⊢
      refine jw_aload_n (pc := 204) (j := 0) dX12_order_204 rfl rfl ?_
      refine jw_dup (pc := 205) dX12_order_205 rfl ?_
      refine jw_getI (pc := 206) dX12_order_206 sM_0 fl_X12_433 (by decide) rfl ?_
      refine jw_iconst (pc := 209) (v := 1) dX12_order_209 rfl ?_
      refine jw_iadd (pc := 210) dX12_order_210 ?_
      refine jw_putI (pc := 211) dX12_order_211 sM_0 fl_X12_433 fw_12_40 (by decide) rfl ?_
      replace h := h _ rfl
      generalize jrI M6 0 (upd (M6.1 0) 40 ((M6.1 0 40) + (1 : Int32))) = M7 at h ⊢
      refine jw_iinc (pc := 214) (j := 2) (u := l4 + 1) (ls' := [(4, .int (l4 + 1)), (0, .ref (x.2.2.2 0)), (1, .int l1)]) dX12_order_214 rfl rfl (by decide) rfl ?_
      refine jw_goto (pc := 217) (tgt := 131) dX12_order_217 (by decide) ?_
      exact jw_sub [1, 2, 0] rfl h
    · replace h := h.2 c
      refine jw_goto (pc := 190) (tgt := 214) dX12_order_190 (by decide) ?_
      refine jw_iinc (pc := 214) (j := 2) (u := l4 + 1) (ls' := [(4, .int (l4 + 1)), (0, .ref (x.2.2.2 0)), (1, .int l1)]) dX12_order_214 rfl rfl (by decide) rfl ?_
      refine jw_goto (pc := 217) (tgt := 131) dX12_order_217 (by decide) ?_
      exact jw_sub [1, 2, 0] rfl h
set_option maxRecDepth 20000 in
theorem b_X12_order_238 {x : jX} {d : Nat} {M : jM} {P : jM → Int32 → Prop} {l4 : Int32} {l5 : Int32} 
    (h : (l5 < 0 → (¬ (M.1 15 0) = 0 → ∀ M1, M1 = jrI M 0 (upd (M.1 0) 39 (M.1 0 40)) → JW x jtbM mX12_order (d + 1) (jI P) 375 [(0, .ref (x.2.2.2 0)), (5, .int (0 : Int32)), (6, .int (0 : Int32))] [] M1) ∧ ((M.1 15 0) = 0 → JC x jtbM mX12_refuse d [.ref (x.2.2.2 0), .int (9 : Int32)] M (jI fun M2 r1 => P M2 r1))) ∧ (¬ l5 < 0 → (¬ l5 = l4 → JW x jtbM mX12_order (d + 1) (jI P) 260 [(0, .ref (x.2.2.2 0)), (4, .int l4), (5, .int l5), (6, .int (0 : Int32)), (7, .int (0 : Int32))] [] M) ∧ (l5 = l4 → JW x jtbM mX12_order (d + 1) (jI P) 260 [(0, .ref (x.2.2.2 0)), (4, .int l4), (5, .int l5), (6, .int (1 : Int32)), (7, .int (0 : Int32))] [] M))) :
    JW x jtbM mX12_order (d + 1) (jI P) 238 [(0, .ref (x.2.2.2 0)), (4, .int l4), (5, .int l5)] [] M := by
  refine jw_iload (pc := 238) (j := 2) dX12_order_238 rfl ?_
  refine jw_if_lt (pc := 240) (tgt := 345) dX12_order_240 (by decide) (fun c => ?_) (fun c => ?_)
  · replace h := h.1 c
    refine jw_aload_n (pc := 345) (j := 0) dX12_order_345 rfl rfl ?_
    refine jw_getR (pc := 346) (r := 15) dX12_order_346 sM_0 fl_X12_66 (by decide) rfl rfl ?_
    refine jw_iconst (pc := 349) (v := 0) dX12_order_349 rfl ?_
    refine jw_zald (pc := 350) (j := 0) dX12_order_350 sM_15 (by decide) rfl (by decide) ?_
    refine jw_if_ne (pc := 351) (tgt := 361) dX12_order_351 (by decide) (fun c => ?_) (fun c => ?_)
    · replace h := h.1 c
      refine jw_iconst (pc := 361) (v := 0) dX12_order_361 rfl ?_
      refine jw_istore (pc := 362) (ls' := [(5, .int (0 : Int32)), (0, .ref (x.2.2.2 0)), (4, .int l4)]) dX12_order_362 (by decide) rfl ?_
      refine jw_aload_n (pc := 364) (j := 1) dX12_order_364 rfl rfl ?_
      refine jw_aload_n (pc := 365) (j := 1) dX12_order_365 rfl rfl ?_
      refine jw_getI (pc := 366) dX12_order_366 sM_0 fl_X12_433 (by decide) rfl ?_
      refine jw_putI (pc := 369) dX12_order_369 sM_0 fl_X12_439 fw_12_39 (by decide) rfl ?_
      replace h := h _ rfl
      generalize jrI M 0 (upd (M.1 0) 39 (M.1 0 40)) = M1 at h ⊢
      refine jw_iconst (pc := 372) (v := 0) dX12_order_372 rfl ?_
      refine jw_istore (pc := 373) (ls' := [(6, .int (0 : Int32)), (5, .int (0 : Int32)), (0, .ref (x.2.2.2 0)), (4, .int l4)]) dX12_order_373 (by decide) rfl ?_
      exact jw_sub [2, 1, 0] rfl h
    · replace h := h.2 c
      refine jw_aload_n (pc := 354) (j := 0) dX12_order_354 rfl rfl ?_
      refine jw_bipush (pc := 355) (v := 9) dX12_order_355 rfl ?_
      refine jw_callV (pc := 357) (m2 := mX12_refuse) (As := [.int (9 : Int32)]) (st := []) dX12_order_357 sM_0 (by decide) rfl rfl gm_X12_refuse ml_X12_316 rfl (Nat.le_of_ble_eq_true rfl) (JC.mono h ?_)
      clear h
      rintro M2 _ ⟨r1, rfl, h⟩
      refine jw_st (st' := [.int r1]) rfl ?_
      exact jw_iret (pc := 360) dX12_order_360 rfl ⟨_, rfl, h⟩
  · replace h := h.2 c
    refine jw_iload (pc := 243) (j := 2) dX12_order_243 rfl ?_
    refine jw_iload (pc := 245) (j := 1) dX12_order_245 rfl ?_
    refine jw_icmp_ne (pc := 247) (tgt := 254) dX12_order_247 (by decide) (fun c => ?_) (fun c => ?_)
    · replace h := h.1 c
      refine jw_iconst (pc := 254) (v := 0) dX12_order_254 rfl ?_
      refine jw_istore (pc := 255) (ls' := [(6, .int (0 : Int32)), (0, .ref (x.2.2.2 0)), (4, .int l4), (5, .int l5)]) dX12_order_255 (by decide) rfl ?_
      refine jw_iconst (pc := 257) (v := 0) dX12_order_257 rfl ?_
      refine jw_istore (pc := 258) (ls' := [(7, .int (0 : Int32)), (6, .int (0 : Int32)), (0, .ref (x.2.2.2 0)), (4, .int l4), (5, .int l5)]) dX12_order_258 (by decide) rfl ?_
      exact jw_sub [2, 3, 4, 1, 0] rfl h
    · replace h := h.2 c
      refine jw_iconst (pc := 250) (v := 1) dX12_order_250 rfl ?_
      refine jw_goto (pc := 251) (tgt := 255) dX12_order_251 (by decide) ?_
      refine jw_istore (pc := 255) (ls' := [(6, .int (1 : Int32)), (0, .ref (x.2.2.2 0)), (4, .int l4), (5, .int l5)]) dX12_order_255 (by decide) rfl ?_
      refine jw_iconst (pc := 257) (v := 0) dX12_order_257 rfl ?_
      refine jw_istore (pc := 258) (ls' := [(7, .int (0 : Int32)), (6, .int (1 : Int32)), (0, .ref (x.2.2.2 0)), (4, .int l4), (5, .int l5)]) dX12_order_258 (by decide) rfl ?_
      exact jw_sub [2, 3, 4, 1, 0] rfl h
set_option maxRecDepth 20000 in
theorem b_X12_order_260 {x : jX} {d : Nat} {M : jM} {P : jM → Int32 → Prop} {l4 : Int32} {l5 : Int32} {l6 : Int32} {l7 : Int32} 
    (h : ((M.1 0 40) ≤ l7 → (l6 = 0 → ∃ j1, j1 < 4096 ∧ l5 = nI j1 ∧ (∀ M1, M1 = jrI M 15 (upd (M.1 15) j1 (0 : Int32)) → JW x jtbM mX12_order (d + 1) (jI P) 238 [(0, .ref (x.2.2.2 0)), (4, .int l4), (5, .int (l5 + (-1)))] [] M1)) ∧ (¬ l6 = 0 → JC x jtbM mX12_isAsSeen d [.ref (x.2.2.2 0), .int l5] M (jZ fun M2 b1 => (b1 = false → ∃ j2, j2 < 4096 ∧ l5 = nI j2 ∧ (∀ M3, M3 = jrI M2 15 (upd (M2.1 15) j2 (0 : Int32)) → JW x jtbM mX12_order (d + 1) (jI P) 238 [(0, .ref (x.2.2.2 0)), (4, .int l4), (5, .int (l5 + (-1)))] [] M3)) ∧ (b1 = true → ∃ j3, j3 < 4096 ∧ l5 = nI j3 ∧ (∀ M4, M4 = jrI M2 15 (upd (M2.1 15) j3 (1 : Int32)) → JW x jtbM mX12_order (d + 1) (jI P) 238 [(0, .ref (x.2.2.2 0)), (4, .int l4), (5, .int (l5 + (-1)))] [] M4))))) ∧ (¬ (M.1 0 40) ≤ l7 → (¬ l6 = 0 → JW x jtbM mX12_order (d + 1) (jI P) 260 [(0, .ref (x.2.2.2 0)), (4, .int l4), (5, .int l5), (6, .int (1 : Int32)), (7, .int (l7 + 1))] [] M) ∧ (l6 = 0 → JC x jtbM mX12_has d [.ref (x.2.2.2 0), .int l5, .int l7] M (jZ fun M5 b2 => (b2 = true → JW x jtbM mX12_order (d + 1) (jI P) 260 [(0, .ref (x.2.2.2 0)), (4, .int l4), (5, .int l5), (6, .int (0 : Int32)), (7, .int (l7 + 1))] [] M5) ∧ (b2 = false → ∃ j4, j4 < 4096 ∧ l5 ||| ((1 : Int32) <<< (l7 &&& 31)) = nI j4 ∧ (((M5.1 15 j4) = 0 → JW x jtbM mX12_order (d + 1) (jI P) 260 [(0, .ref (x.2.2.2 0)), (4, .int l4), (5, .int l5), (6, .int (0 : Int32)), (7, .int (l7 + 1))] [] M5) ∧ (¬ (M5.1 15 j4) = 0 → JW x jtbM mX12_order (d + 1) (jI P) 260 [(0, .ref (x.2.2.2 0)), (4, .int l4), (5, .int l5), (6, .int (1 : Int32)), (7, .int (l7 + 1))] [] M5))))))) :
    JW x jtbM mX12_order (d + 1) (jI P) 260 [(0, .ref (x.2.2.2 0)), (4, .int l4), (5, .int l5), (6, .int l6), (7, .int l7)] [] M := by
  refine jw_iload (pc := 260) (j := 4) dX12_order_260 rfl ?_
  refine jw_aload_n (pc := 262) (j := 0) dX12_order_262 rfl rfl ?_
  refine jw_getI (pc := 263) dX12_order_263 sM_0 fl_X12_433 (by decide) rfl ?_
  refine jw_icmp_ge (pc := 266) (tgt := 313) dX12_order_266 (by decide) (fun c => ?_) (fun c => ?_)
  · replace h := h.1 c
    refine jw_aload_n (pc := 313) (j := 0) dX12_order_313 rfl rfl ?_
    refine jw_getR (pc := 314) (r := 15) dX12_order_314 sM_0 fl_X12_66 (by decide) rfl rfl ?_
    refine jw_iload (pc := 317) (j := 2) dX12_order_317 rfl ?_
    refine jw_iload (pc := 319) (j := 3) dX12_order_319 rfl ?_
    refine jw_if_eq (pc := 321) (tgt := 337) dX12_order_321 (by decide) (fun c => ?_) (fun c => ?_)
    · replace h := h.1 c
      refine jw_iconst (pc := 337) (v := 0) dX12_order_337 rfl ?_
      obtain ⟨j1, hj1, ej1, h⟩ := h
      refine jw_zast (pc := 338) (j := j1) dX12_order_338 sM_15 hj1 ej1 (by decide) (Or.inl rfl) ?_
      replace h := h _ rfl
      generalize jrI M 15 (upd (M.1 15) j1 (0 : Int32)) = M1 at h ⊢
      refine jw_iinc (pc := 339) (j := 2) (u := l5 + (-1)) (ls' := [(5, .int (l5 + (-1))), (0, .ref (x.2.2.2 0)), (4, .int l4), (6, .int l6), (7, .int l7)]) dX12_order_339 rfl rfl (by decide) rfl ?_
      refine jw_goto (pc := 342) (tgt := 238) dX12_order_342 (by decide) ?_
      exact jw_sub [1, 2, 0] rfl h
    · replace h := h.2 c
      refine jw_aload_n (pc := 324) (j := 0) dX12_order_324 rfl rfl ?_
      refine jw_iload (pc := 325) (j := 2) dX12_order_325 rfl ?_
      refine jw_callV (pc := 327) (m2 := mX12_isAsSeen) (As := [.int l5]) (st := [.int l5, .ref (x.2.2.2 15)]) dX12_order_327 sM_0 (by decide) rfl rfl gm_X12_isAsSeen ml_X12_436 rfl (Nat.le_of_ble_eq_true rfl) (JC.mono h ?_)
      clear h
      rintro M2 _ ⟨b1, rfl, h⟩
      refine jw_st (st' := [.int (jb b1), .int l5, .ref (x.2.2.2 15)]) rfl ?_
      refine jw_if_eq (pc := 330) (tgt := 337) dX12_order_330 (by decide) (fun c => ?_) (fun c => ?_)
      · replace h := h.1 ((jb_0 _).mp c)
        refine jw_iconst (pc := 337) (v := 0) dX12_order_337 rfl ?_
        obtain ⟨j2, hj2, ej2, h⟩ := h
        refine jw_zast (pc := 338) (j := j2) dX12_order_338 sM_15 hj2 ej2 (by decide) (Or.inl rfl) ?_
        replace h := h _ rfl
        generalize jrI M2 15 (upd (M2.1 15) j2 (0 : Int32)) = M3 at h ⊢
        refine jw_iinc (pc := 339) (j := 2) (u := l5 + (-1)) (ls' := [(5, .int (l5 + (-1))), (0, .ref (x.2.2.2 0)), (4, .int l4), (6, .int l6), (7, .int l7)]) dX12_order_339 rfl rfl (by decide) rfl ?_
        refine jw_goto (pc := 342) (tgt := 238) dX12_order_342 (by decide) ?_
        exact jw_sub [1, 2, 0] rfl h
      · replace h := h.2 (jb_ne c)
        refine jw_iconst (pc := 333) (v := 1) dX12_order_333 rfl ?_
        refine jw_goto (pc := 334) (tgt := 338) dX12_order_334 (by decide) ?_
        obtain ⟨j3, hj3, ej3, h⟩ := h
        refine jw_zast (pc := 338) (j := j3) dX12_order_338 sM_15 hj3 ej3 (by decide) (Or.inr rfl) ?_
        replace h := h _ rfl
        generalize jrI M2 15 (upd (M2.1 15) j3 (1 : Int32)) = M4 at h ⊢
        refine jw_iinc (pc := 339) (j := 2) (u := l5 + (-1)) (ls' := [(5, .int (l5 + (-1))), (0, .ref (x.2.2.2 0)), (4, .int l4), (6, .int l6), (7, .int l7)]) dX12_order_339 rfl rfl (by decide) rfl ?_
        refine jw_goto (pc := 342) (tgt := 238) dX12_order_342 (by decide) ?_
        exact jw_sub [1, 2, 0] rfl h
  · replace h := h.2 c
    refine jw_iload (pc := 269) (j := 3) dX12_order_269 rfl ?_
    refine jw_if_ne (pc := 271) (tgt := 300) dX12_order_271 (by decide) (fun c => ?_) (fun c => ?_)
    · replace h := h.1 c
      refine jw_iconst (pc := 300) (v := 1) dX12_order_300 rfl ?_
      refine jw_goto (pc := 301) (tgt := 305) dX12_order_301 (by decide) ?_
      refine jw_istore (pc := 305) (ls' := [(6, .int (1 : Int32)), (0, .ref (x.2.2.2 0)), (4, .int l4), (5, .int l5), (7, .int l7)]) dX12_order_305 (by decide) rfl ?_
      refine jw_iinc (pc := 307) (j := 4) (u := l7 + 1) (ls' := [(7, .int (l7 + 1)), (6, .int (1 : Int32)), (0, .ref (x.2.2.2 0)), (4, .int l4), (5, .int l5)]) dX12_order_307 rfl rfl (by decide) rfl ?_
      refine jw_goto (pc := 310) (tgt := 260) dX12_order_310 (by decide) ?_
      exact jw_sub [2, 3, 4, 1, 0] rfl h
    · replace h := h.2 c
      refine jw_aload_n (pc := 274) (j := 0) dX12_order_274 rfl rfl ?_
      refine jw_iload (pc := 275) (j := 2) dX12_order_275 rfl ?_
      refine jw_iload (pc := 277) (j := 4) dX12_order_277 rfl ?_
      refine jw_callV (pc := 279) (m2 := mX12_has) (As := [.int l5, .int l7]) (st := []) dX12_order_279 sM_0 (by decide) rfl rfl gm_X12_has ml_X12_381 rfl (Nat.le_of_ble_eq_true rfl) (JC.mono h ?_)
      clear h
      rintro M5 _ ⟨b2, rfl, h⟩
      refine jw_st (st' := [.int (jb b2)]) rfl ?_
      refine jw_if_ne (pc := 282) (tgt := 304) dX12_order_282 (by decide) (fun c => ?_) (fun c => ?_)
      · replace h := h.1 (jb_ne c)
        refine jw_iconst (pc := 304) (v := 0) dX12_order_304 rfl ?_
        refine jw_istore (pc := 305) (ls' := [(6, .int (0 : Int32)), (0, .ref (x.2.2.2 0)), (4, .int l4), (5, .int l5), (7, .int l7)]) dX12_order_305 (by decide) rfl ?_
        refine jw_iinc (pc := 307) (j := 4) (u := l7 + 1) (ls' := [(7, .int (l7 + 1)), (6, .int (0 : Int32)), (0, .ref (x.2.2.2 0)), (4, .int l4), (5, .int l5)]) dX12_order_307 rfl rfl (by decide) rfl ?_
        refine jw_goto (pc := 310) (tgt := 260) dX12_order_310 (by decide) ?_
        exact jw_sub [2, 3, 4, 1, 0] rfl h
      · replace h := h.2 ((jb_0 _).mp c)
        refine jw_aload_n (pc := 285) (j := 0) dX12_order_285 rfl rfl ?_
        refine jw_getR (pc := 286) (r := 15) dX12_order_286 sM_0 fl_X12_66 (by decide) rfl rfl ?_
        refine jw_iload (pc := 289) (j := 2) dX12_order_289 rfl ?_
        refine jw_iconst (pc := 291) (v := 1) dX12_order_291 rfl ?_
        refine jw_iload (pc := 292) (j := 4) dX12_order_292 rfl ?_
        refine jw_ishl (pc := 294) dX12_order_294 ?_
        refine jw_ior (pc := 295) dX12_order_295 ?_
        obtain ⟨j4, hj4, ej4, h⟩ := h
        refine jw_zald (pc := 296) (j := j4) dX12_order_296 sM_15 hj4 ej4 (by decide) ?_
        refine jw_if_eq (pc := 297) (tgt := 304) dX12_order_297 (by decide) (fun c => ?_) (fun c => ?_)
        · replace h := h.1 c
          refine jw_iconst (pc := 304) (v := 0) dX12_order_304 rfl ?_
          refine jw_istore (pc := 305) (ls' := [(6, .int (0 : Int32)), (0, .ref (x.2.2.2 0)), (4, .int l4), (5, .int l5), (7, .int l7)]) dX12_order_305 (by decide) rfl ?_
          refine jw_iinc (pc := 307) (j := 4) (u := l7 + 1) (ls' := [(7, .int (l7 + 1)), (6, .int (0 : Int32)), (0, .ref (x.2.2.2 0)), (4, .int l4), (5, .int l5)]) dX12_order_307 rfl rfl (by decide) rfl ?_
          refine jw_goto (pc := 310) (tgt := 260) dX12_order_310 (by decide) ?_
          exact jw_sub [2, 3, 4, 1, 0] rfl h
        · replace h := h.2 c
          refine jw_iconst (pc := 300) (v := 1) dX12_order_300 rfl ?_
          refine jw_goto (pc := 301) (tgt := 305) dX12_order_301 (by decide) ?_
          refine jw_istore (pc := 305) (ls' := [(6, .int (1 : Int32)), (0, .ref (x.2.2.2 0)), (4, .int l4), (5, .int l5), (7, .int l7)]) dX12_order_305 (by decide) rfl ?_
          refine jw_iinc (pc := 307) (j := 4) (u := l7 + 1) (ls' := [(7, .int (l7 + 1)), (6, .int (1 : Int32)), (0, .ref (x.2.2.2 0)), (4, .int l4), (5, .int l5)]) dX12_order_307 rfl rfl (by decide) rfl ?_
          refine jw_goto (pc := 310) (tgt := 260) dX12_order_310 (by decide) ?_
          exact jw_sub [2, 3, 4, 1, 0] rfl h
set_option maxRecDepth 20000 in
theorem b_X12_order_375 {x : jX} {d : Nat} {M : jM} {P : jM → Int32 → Prop} {l5 : Int32} {l6 : Int32} 
    (h : ((M.1 0 40) ≤ l6 → P M (M.1 0 40)) ∧ (¬ (M.1 0 40) ≤ l6 → JW x jtbM mX12_order (d + 1) (jI P) 387 [(0, .ref (x.2.2.2 0)), (5, .int l5), (6, .int l6), (7, .int (0 : Int32))] [] M)) :
    JW x jtbM mX12_order (d + 1) (jI P) 375 [(0, .ref (x.2.2.2 0)), (5, .int l5), (6, .int l6)] [] M := by
  refine jw_iload (pc := 375) (j := 2) dX12_order_375 rfl ?_
  refine jw_aload_n (pc := 377) (j := 0) dX12_order_377 rfl rfl ?_
  refine jw_getI (pc := 378) dX12_order_378 sM_0 fl_X12_433 (by decide) rfl ?_
  refine jw_icmp_ge (pc := 381) (tgt := 448) dX12_order_381 (by decide) (fun c => ?_) (fun c => ?_)
  · replace h := h.1 c
    refine jw_aload_n (pc := 448) (j := 0) dX12_order_448 rfl rfl ?_
    refine jw_getI (pc := 449) dX12_order_449 sM_0 fl_X12_433 (by decide) rfl ?_
    exact jw_iret (pc := 452) dX12_order_452 rfl ⟨_, rfl, h⟩
  · replace h := h.2 c
    refine jw_iconst (pc := 384) (v := 0) dX12_order_384 rfl ?_
    refine jw_istore (pc := 385) (ls' := [(7, .int (0 : Int32)), (0, .ref (x.2.2.2 0)), (5, .int l5), (6, .int l6)]) dX12_order_385 (by decide) rfl ?_
    exact jw_sub [1, 2, 3, 0] rfl h
set_option maxRecDepth 20000 in
theorem b_X12_order_387 {x : jX} {d : Nat} {M : jM} {P : jM → Int32 → Prop} {l5 : Int32} {l6 : Int32} {l7 : Int32} 
    (h : JC x jtbM mX12_has d [.ref (x.2.2.2 0), .int l5, .int l7] M (jZ fun M1 b1 => (b1 = true → JW x jtbM mX12_order (d + 1) (jI P) 387 [(0, .ref (x.2.2.2 0)), (5, .int l5), (6, .int l6), (7, .int (l7 + 1))] [] M1) ∧ (b1 = false → ∃ j1, j1 < 4096 ∧ l5 ||| ((1 : Int32) <<< (l7 &&& 31)) = nI j1 ∧ ((¬ (M1.1 15 j1) = 0 → ∃ j2, j2 < 12 ∧ l7 = nI j2 ∧ (∃ j3, j3 < 12 ∧ l6 = nI j3 ∧ (∀ M2, M2 = jrI M1 13 (upd (M1.1 13) j3 (M1.1 12 j2)) → JW x jtbM mX12_order (d + 1) (jI P) 375 [(0, .ref (x.2.2.2 0)), (5, .int (l5 ||| ((1 : Int32) <<< (l7 &&& 31)))), (6, .int (l6 + 1))] [] M2))) ∧ ((M1.1 15 j1) = 0 → JW x jtbM mX12_order (d + 1) (jI P) 387 [(0, .ref (x.2.2.2 0)), (5, .int l5), (6, .int l6), (7, .int (l7 + 1))] [] M1))))) :
    JW x jtbM mX12_order (d + 1) (jI P) 387 [(0, .ref (x.2.2.2 0)), (5, .int l5), (6, .int l6), (7, .int l7)] [] M := by
  refine jw_aload_n (pc := 387) (j := 0) dX12_order_387 rfl rfl ?_
  refine jw_iload (pc := 388) (j := 1) dX12_order_388 rfl ?_
  refine jw_iload (pc := 390) (j := 3) dX12_order_390 rfl ?_
  refine jw_callV (pc := 392) (m2 := mX12_has) (As := [.int l5, .int l7]) (st := []) dX12_order_392 sM_0 (by decide) rfl rfl gm_X12_has ml_X12_381 rfl (Nat.le_of_ble_eq_true rfl) (JC.mono h ?_)
  clear h
  rintro M1 _ ⟨b1, rfl, h⟩
  refine jw_st (st' := [.int (jb b1)]) rfl ?_
  refine jw_if_ne (pc := 395) (tgt := 413) dX12_order_395 (by decide) (fun c => ?_) (fun c => ?_)
  · replace h := h.1 (jb_ne c)
    refine jw_iinc (pc := 413) (j := 3) (u := l7 + 1) (ls' := [(7, .int (l7 + 1)), (0, .ref (x.2.2.2 0)), (5, .int l5), (6, .int l6)]) dX12_order_413 rfl rfl (by decide) rfl ?_
    refine jw_goto (pc := 416) (tgt := 387) dX12_order_416 (by decide) ?_
    exact jw_sub [1, 2, 3, 0] rfl h
  · replace h := h.2 ((jb_0 _).mp c)
    refine jw_aload_n (pc := 398) (j := 0) dX12_order_398 rfl rfl ?_
    refine jw_getR (pc := 399) (r := 15) dX12_order_399 sM_0 fl_X12_66 (by decide) rfl rfl ?_
    refine jw_iload (pc := 402) (j := 1) dX12_order_402 rfl ?_
    refine jw_iconst (pc := 404) (v := 1) dX12_order_404 rfl ?_
    refine jw_iload (pc := 405) (j := 3) dX12_order_405 rfl ?_
    refine jw_ishl (pc := 407) dX12_order_407 ?_
    refine jw_ior (pc := 408) dX12_order_408 ?_
    obtain ⟨j1, hj1, ej1, h⟩ := h
    refine jw_zald (pc := 409) (j := j1) dX12_order_409 sM_15 hj1 ej1 (by decide) ?_
    refine jw_if_ne (pc := 410) (tgt := 419) dX12_order_410 (by decide) (fun c => ?_) (fun c => ?_)
    · replace h := h.1 c
      refine jw_aload_n (pc := 419) (j := 0) dX12_order_419 rfl rfl ?_
      refine jw_getR (pc := 420) (r := 13) dX12_order_420 sM_0 fl_X12_60 (by decide) rfl rfl ?_
      refine jw_iload (pc := 423) (j := 2) dX12_order_423 rfl ?_
      refine jw_aload_n (pc := 425) (j := 0) dX12_order_425 rfl rfl ?_
      refine jw_getR (pc := 426) (r := 12) dX12_order_426 sM_0 fl_X12_57 (by decide) rfl rfl ?_
      refine jw_iload (pc := 429) (j := 3) dX12_order_429 rfl ?_
      obtain ⟨j2, hj2, ej2, h⟩ := h
      refine jw_iald (pc := 431) (j := j2) dX12_order_431 sM_12 hj2 ej2 (by decide) ?_
      obtain ⟨j3, hj3, ej3, h⟩ := h
      refine jw_iast (pc := 432) (j := j3) dX12_order_432 sM_13 hj3 ej3 (by decide) ?_
      replace h := h _ rfl
      generalize jrI M1 13 (upd (M1.1 13) j3 (M1.1 12 j2)) = M2 at h ⊢
      refine jw_iload (pc := 433) (j := 1) dX12_order_433 rfl ?_
      refine jw_iconst (pc := 435) (v := 1) dX12_order_435 rfl ?_
      refine jw_iload (pc := 436) (j := 3) dX12_order_436 rfl ?_
      refine jw_ishl (pc := 438) dX12_order_438 ?_
      refine jw_ior (pc := 439) dX12_order_439 ?_
      refine jw_istore (pc := 440) (ls' := [(5, .int (l5 ||| ((1 : Int32) <<< (l7 &&& 31)))), (0, .ref (x.2.2.2 0)), (6, .int l6), (7, .int l7)]) dX12_order_440 (by decide) rfl ?_
      refine jw_iinc (pc := 442) (j := 2) (u := l6 + 1) (ls' := [(6, .int (l6 + 1)), (5, .int (l5 ||| ((1 : Int32) <<< (l7 &&& 31)))), (0, .ref (x.2.2.2 0)), (7, .int l7)]) dX12_order_442 rfl rfl (by decide) rfl ?_
      refine jw_goto (pc := 445) (tgt := 375) dX12_order_445 (by decide) ?_
      exact jw_sub [2, 1, 0] rfl h
    · replace h := h.2 c
      refine jw_iinc (pc := 413) (j := 3) (u := l7 + 1) (ls' := [(7, .int (l7 + 1)), (0, .ref (x.2.2.2 0)), (5, .int l5), (6, .int l6)]) dX12_order_413 rfl rfl (by decide) rfl ?_
      refine jw_goto (pc := 416) (tgt := 387) dX12_order_416 (by decide) ?_
      exact jw_sub [1, 2, 3, 0] rfl h
set_option maxRecDepth 20000 in
theorem b_X12_orderAt {x : jX} {d : Nat} {M : jM} {P : jM → Int32 → Prop} {a1 : Int32} 
    (h : ∀ M1, M1 = jrI M 0 (upd (M.1 0) 1 (0 : Int32)) → ∀ M2, M2 = jrI M1 0 (upd (M1.1 0) 0 (0 : Int32)) → JC x jtbM mX12_isIn d [.long a1.toInt64, .long (0 : Int64), .long (((M2.1 0 39) - (1 : Int32)).toInt64)] M2 (jZ fun M3 b1 => (b1 = false → JC x jtbM mX12_refuse d [.ref (x.2.2.2 0), .int (8 : Int32)] M3 (jI fun M4 r1 => P M4 r1)) ∧ (b1 = true → ∃ j1, j1 < 12 ∧ a1 = nI j1 ∧ (P M3 (M3.1 13 j1))))) :
    JC x jtbM mX12_orderAt (d + 1) [.ref (x.2.2.2 0), .int a1] M (jI P) := by
  refine JC.of rfl (Nat.le_of_ble_eq_true rfl) ?_
  refine jw_ls (ls' := [(0, .ref (x.2.2.2 0)), (1, .int a1)]) rfl ?_
  refine jw_aload_n (pc := 0) (j := 0) dX12_orderAt_0 rfl rfl ?_
  refine jw_iconst (pc := 1) (v := 0) dX12_orderAt_1 rfl ?_
  refine jw_putI (pc := 2) dX12_orderAt_2 sM_0 fl_X12_81 fw_12_1 (by decide) rfl ?_
  replace h := h _ rfl
  generalize jrI M 0 (upd (M.1 0) 1 (0 : Int32)) = M1 at h ⊢
  refine jw_aload_n (pc := 5) (j := 0) dX12_orderAt_5 rfl rfl ?_
  refine jw_iconst (pc := 6) (v := 0) dX12_orderAt_6 rfl ?_
  refine jw_putI (pc := 7) dX12_orderAt_7 sM_0 fl_X12_84 fw_12_0 (by decide) rfl ?_
  replace h := h _ rfl
  generalize jrI M1 0 (upd (M1.1 0) 0 (0 : Int32)) = M2 at h ⊢
  refine jw_iload_n (pc := 10) (j := 1) dX12_orderAt_10 rfl rfl ?_
  refine jw_i2l (pc := 11) dX12_orderAt_11 ?_
  refine jw_lconst (pc := 12) (v := 0) dX12_orderAt_12 rfl ?_
  refine jw_aload_n (pc := 13) (j := 0) dX12_orderAt_13 rfl rfl ?_
  refine jw_getI (pc := 14) dX12_orderAt_14 sM_0 fl_X12_439 (by decide) rfl ?_
  refine jw_iconst (pc := 17) (v := 1) dX12_orderAt_17 rfl ?_
  refine jw_isub (pc := 18) dX12_orderAt_18 ?_
  refine jw_i2l (pc := 19) dX12_orderAt_19 ?_
  refine jw_callS (pc := 20) (m2 := mX12_isIn) (As := [.long a1.toInt64, .long (0 : Int64), .long (((M2.1 0 39) - (1 : Int32)).toInt64)]) (st := []) dX12_orderAt_20 gm_X12_isIn ml_X12_116 rfl (Nat.le_of_ble_eq_true rfl) (JC.mono h ?_)
  clear h
  rintro M3 _ ⟨b1, rfl, h⟩
  refine jw_st (st' := [.int (jb b1)]) rfl ?_
  refine jw_if_eq (pc := 23) (tgt := 35) dX12_orderAt_23 (by decide) (fun c => ?_) (fun c => ?_)
  · replace h := h.1 ((jb_0 _).mp c)
    refine jw_aload_n (pc := 35) (j := 0) dX12_orderAt_35 rfl rfl ?_
    refine jw_bipush (pc := 36) (v := 8) dX12_orderAt_36 rfl ?_
    refine jw_callV (pc := 38) (m2 := mX12_refuse) (As := [.int (8 : Int32)]) (st := []) dX12_orderAt_38 sM_0 (by decide) rfl rfl gm_X12_refuse ml_X12_316 rfl (Nat.le_of_ble_eq_true rfl) (JC.mono h ?_)
    clear h
    rintro M4 _ ⟨r1, rfl, h⟩
    refine jw_st (st' := [.int r1]) rfl ?_
    exact jw_iret (pc := 41) dX12_orderAt_41 rfl ⟨_, rfl, h⟩
  · replace h := h.2 (jb_ne c)
    refine jw_aload_n (pc := 26) (j := 0) dX12_orderAt_26 rfl rfl ?_
    refine jw_getR (pc := 27) (r := 13) dX12_orderAt_27 sM_0 fl_X12_60 (by decide) rfl rfl ?_
    refine jw_iload_n (pc := 30) (j := 1) dX12_orderAt_30 rfl rfl ?_
    obtain ⟨j1, hj1, ej1, h⟩ := h
    refine jw_iald (pc := 31) (j := j1) dX12_orderAt_31 sM_13 hj1 ej1 (by decide) ?_
    refine jw_goto (pc := 32) (tgt := 41) dX12_orderAt_32 (by decide) ?_
    exact jw_iret (pc := 41) dX12_orderAt_41 rfl ⟨_, rfl, h⟩
set_option maxRecDepth 20000 in
theorem b_X12_like {x : jX} {d : Nat} {M : jM} {P : jM → Int32 → Prop} {a1 : Int32} {a2 : Int32} 
    (h : ∀ M1, M1 = jrI M 0 (upd (M.1 0) 1 (0 : Int32)) → ∀ M2, M2 = jrI M1 0 (upd (M1.1 0) 0 (0 : Int32)) → JC x jtbM mX12_isTray d [.ref (x.2.2.2 0), .int a1] M2 (jZ fun M3 b1 => (b1 = true → ∃ j1, j1 < 4 ∧ a1 = nI j1 ∧ ((0 ≤ (M3.1 2 j1) → JC x jtbM mX12_isIn d [.long a2.toInt64, .long (1 : Int64), .long (9 : Int64)] M3 (jZ fun M4 b2 => (b2 = true → JC x jtbM mX12_wrongRow d [.ref (x.2.2.2 0), .int a1, .int a2] M4 (jI fun M5 r1 => (r1 ≤ 0 → (¬ (M5.1 5 2) = 0 → JW x jtbM mX12_like (d + 1) (jI P) 93 [(0, .ref (x.2.2.2 0)), (1, .int a1), (2, .int a2), (4, .int (0 : Int32))] [] M5) ∧ ((M5.1 5 2) = 0 → JC x jtbM mX12_refuse d [.ref (x.2.2.2 0), .int (8 : Int32)] M5 (jI fun M6 r2 => P M6 r2))) ∧ (¬ r1 ≤ 0 → JC x jtbM mX12_refuse d [.ref (x.2.2.2 0), .int r1] M5 (jI fun M7 r3 => P M7 r3)))) ∧ (b2 = false → JC x jtbM mX12_refuse d [.ref (x.2.2.2 0), .int (5 : Int32)] M4 (jI fun M8 r4 => P M8 r4)))) ∧ (¬ 0 ≤ (M3.1 2 j1) → JC x jtbM mX12_refuse d [.ref (x.2.2.2 0), .int (3 : Int32)] M3 (jI fun M9 r5 => P M9 r5)))) ∧ (b1 = false → JC x jtbM mX12_refuse d [.ref (x.2.2.2 0), .int (1 : Int32)] M3 (jI fun M10 r6 => P M10 r6)))) :
    JC x jtbM mX12_like (d + 1) [.ref (x.2.2.2 0), .int a1, .int a2] M (jI P) := by
  refine JC.of rfl (Nat.le_of_ble_eq_true rfl) ?_
  refine jw_ls (ls' := [(0, .ref (x.2.2.2 0)), (1, .int a1), (2, .int a2)]) rfl ?_
  refine jw_aload_n (pc := 0) (j := 0) dX12_like_0 rfl rfl ?_
  refine jw_iconst (pc := 1) (v := 0) dX12_like_1 rfl ?_
  refine jw_putI (pc := 2) dX12_like_2 sM_0 fl_X12_81 fw_12_1 (by decide) rfl ?_
  replace h := h _ rfl
  generalize jrI M 0 (upd (M.1 0) 1 (0 : Int32)) = M1 at h ⊢
  refine jw_aload_n (pc := 5) (j := 0) dX12_like_5 rfl rfl ?_
  refine jw_iconst (pc := 6) (v := 0) dX12_like_6 rfl ?_
  refine jw_putI (pc := 7) dX12_like_7 sM_0 fl_X12_84 fw_12_0 (by decide) rfl ?_
  replace h := h _ rfl
  generalize jrI M1 0 (upd (M1.1 0) 0 (0 : Int32)) = M2 at h ⊢
  refine jw_aload_n (pc := 10) (j := 0) dX12_like_10 rfl rfl ?_
  refine jw_iload_n (pc := 11) (j := 1) dX12_like_11 rfl rfl ?_
  refine jw_callV (pc := 12) (m2 := mX12_isTray) (As := [.int a1]) (st := []) dX12_like_12 sM_0 (by decide) rfl rfl gm_X12_isTray ml_X12_336 rfl (Nat.le_of_ble_eq_true rfl) (JC.mono h ?_)
  clear h
  rintro M3 _ ⟨b1, rfl, h⟩
  refine jw_st (st' := [.int (jb b1)]) rfl ?_
  refine jw_if_ne (pc := 15) (tgt := 24) dX12_like_15 (by decide) (fun c => ?_) (fun c => ?_)
  · replace h := h.1 (jb_ne c)
    refine jw_aload_n (pc := 24) (j := 0) dX12_like_24 rfl rfl ?_
    refine jw_getR (pc := 25) (r := 2) dX12_like_25 sM_0 fl_X12_17 (by decide) rfl rfl ?_
    refine jw_iload_n (pc := 28) (j := 1) dX12_like_28 rfl rfl ?_
    obtain ⟨j1, hj1, ej1, h⟩ := h
    refine jw_iald (pc := 29) (j := j1) dX12_like_29 sM_2 hj1 ej1 (by decide) ?_
    refine jw_if_ge (pc := 30) (tgt := 39) dX12_like_30 (by decide) (fun c => ?_) (fun c => ?_)
    · replace h := h.1 c
      refine jw_iload_n (pc := 39) (j := 2) dX12_like_39 rfl rfl ?_
      refine jw_i2l (pc := 40) dX12_like_40 ?_
      refine jw_lconst (pc := 41) (v := 1) dX12_like_41 rfl ?_
      refine jw_ldc2 (pc := 42) (v := 9) dX12_like_42 kl_X12_431 ?_
      refine jw_callS (pc := 45) (m2 := mX12_isIn) (As := [.long a2.toInt64, .long (1 : Int64), .long (9 : Int64)]) (st := []) dX12_like_45 gm_X12_isIn ml_X12_116 rfl (Nat.le_of_ble_eq_true rfl) (JC.mono h ?_)
      clear h
      rintro M4 _ ⟨b2, rfl, h⟩
      refine jw_st (st' := [.int (jb b2)]) rfl ?_
      refine jw_if_ne (pc := 48) (tgt := 57) dX12_like_48 (by decide) (fun c => ?_) (fun c => ?_)
      · replace h := h.1 (jb_ne c)
        refine jw_aload_n (pc := 57) (j := 0) dX12_like_57 rfl rfl ?_
        refine jw_iload_n (pc := 58) (j := 1) dX12_like_58 rfl rfl ?_
        refine jw_iload_n (pc := 59) (j := 2) dX12_like_59 rfl rfl ?_
        refine jw_callV (pc := 60) (m2 := mX12_wrongRow) (As := [.int a1, .int a2]) (st := []) dX12_like_60 sM_0 (by decide) rfl rfl gm_X12_wrongRow ml_X12_339 rfl (Nat.le_of_ble_eq_true rfl) (JC.mono h ?_)
        clear h
        rintro M5 _ ⟨r1, rfl, h⟩
        refine jw_st (st' := [.int r1]) rfl ?_
        refine jw_istore_n (pc := 63) (ls' := [(3, .int r1), (0, .ref (x.2.2.2 0)), (1, .int a1), (2, .int a2)]) dX12_like_63 rfl (by decide) rfl ?_
        refine jw_iload_n (pc := 64) (j := 0) dX12_like_64 rfl rfl ?_
        refine jw_if_le (pc := 65) (tgt := 74) dX12_like_65 (by decide) (fun c => ?_) (fun c => ?_)
        · replace h := h.1 c
          refine jw_aload_n (pc := 74) (j := 1) dX12_like_74 rfl rfl ?_
          refine jw_getR (pc := 75) (r := 5) dX12_like_75 sM_0 fl_X12_35 (by decide) rfl rfl ?_
          refine jw_iconst (pc := 78) (v := 2) dX12_like_78 rfl ?_
          refine jw_iald (pc := 79) (j := 2) dX12_like_79 sM_5 (by decide) rfl (by decide) ?_
          refine jw_if_ne (pc := 80) (tgt := 90) dX12_like_80 (by decide) (fun c => ?_) (fun c => ?_)
          · replace h := h.1 c
            refine jw_iconst (pc := 90) (v := 0) dX12_like_90 rfl ?_
            refine jw_istore (pc := 91) (ls' := [(4, .int (0 : Int32)), (3, .int r1), (0, .ref (x.2.2.2 0)), (1, .int a1), (2, .int a2)]) dX12_like_91 (by decide) rfl ?_
            exact jw_sub [2, 3, 4, 0] rfl h
          · replace h := h.2 c
            refine jw_aload_n (pc := 83) (j := 1) dX12_like_83 rfl rfl ?_
            refine jw_bipush (pc := 84) (v := 8) dX12_like_84 rfl ?_
            refine jw_callV (pc := 86) (m2 := mX12_refuse) (As := [.int (8 : Int32)]) (st := []) dX12_like_86 sM_0 (by decide) rfl rfl gm_X12_refuse ml_X12_316 rfl (Nat.le_of_ble_eq_true rfl) (JC.mono h ?_)
            clear h
            rintro M6 _ ⟨r2, rfl, h⟩
            refine jw_st (st' := [.int r2]) rfl ?_
            exact jw_iret (pc := 89) dX12_like_89 rfl ⟨_, rfl, h⟩
        · replace h := h.2 c
          refine jw_aload_n (pc := 68) (j := 1) dX12_like_68 rfl rfl ?_
          refine jw_iload_n (pc := 69) (j := 0) dX12_like_69 rfl rfl ?_
          refine jw_callV (pc := 70) (m2 := mX12_refuse) (As := [.int r1]) (st := []) dX12_like_70 sM_0 (by decide) rfl rfl gm_X12_refuse ml_X12_316 rfl (Nat.le_of_ble_eq_true rfl) (JC.mono h ?_)
          clear h
          rintro M7 _ ⟨r3, rfl, h⟩
          refine jw_st (st' := [.int r3]) rfl ?_
          exact jw_iret (pc := 73) dX12_like_73 rfl ⟨_, rfl, h⟩
      · replace h := h.2 ((jb_0 _).mp c)
        refine jw_aload_n (pc := 51) (j := 0) dX12_like_51 rfl rfl ?_
        refine jw_iconst (pc := 52) (v := 5) dX12_like_52 rfl ?_
        refine jw_callV (pc := 53) (m2 := mX12_refuse) (As := [.int (5 : Int32)]) (st := []) dX12_like_53 sM_0 (by decide) rfl rfl gm_X12_refuse ml_X12_316 rfl (Nat.le_of_ble_eq_true rfl) (JC.mono h ?_)
        clear h
        rintro M8 _ ⟨r4, rfl, h⟩
        refine jw_st (st' := [.int r4]) rfl ?_
        exact jw_iret (pc := 56) dX12_like_56 rfl ⟨_, rfl, h⟩
    · replace h := h.2 c
      refine jw_aload_n (pc := 33) (j := 0) dX12_like_33 rfl rfl ?_
      refine jw_iconst (pc := 34) (v := 3) dX12_like_34 rfl ?_
      refine jw_callV (pc := 35) (m2 := mX12_refuse) (As := [.int (3 : Int32)]) (st := []) dX12_like_35 sM_0 (by decide) rfl rfl gm_X12_refuse ml_X12_316 rfl (Nat.le_of_ble_eq_true rfl) (JC.mono h ?_)
      clear h
      rintro M9 _ ⟨r5, rfl, h⟩
      refine jw_st (st' := [.int r5]) rfl ?_
      exact jw_iret (pc := 38) dX12_like_38 rfl ⟨_, rfl, h⟩
  · replace h := h.2 ((jb_0 _).mp c)
    refine jw_aload_n (pc := 18) (j := 0) dX12_like_18 rfl rfl ?_
    refine jw_iconst (pc := 19) (v := 1) dX12_like_19 rfl ?_
    refine jw_callV (pc := 20) (m2 := mX12_refuse) (As := [.int (1 : Int32)]) (st := []) dX12_like_20 sM_0 (by decide) rfl rfl gm_X12_refuse ml_X12_316 rfl (Nat.le_of_ble_eq_true rfl) (JC.mono h ?_)
    clear h
    rintro M10 _ ⟨r6, rfl, h⟩
    refine jw_st (st' := [.int r6]) rfl ?_
    exact jw_iret (pc := 23) dX12_like_23 rfl ⟨_, rfl, h⟩
set_option maxRecDepth 20000 in
theorem b_X12_like_93 {x : jX} {d : Nat} {M : jM} {P : jM → Int32 → Prop} {l1 : Int32} {l2 : Int32} {l4 : Int32} 
    (h : ((M.1 5 2) ≤ l4 → JW x jtbM mX12_like (d + 1) (jI P) 130 [(0, .ref (x.2.2.2 0)), (1, .int l1), (2, .int l2), (4, .int (0 : Int32))] [] M) ∧ (¬ (M.1 5 2) ≤ l4 → JC x jtbM mX12_strips d [.ref (x.2.2.2 0), .int l4] M (jI fun M1 r1 => (r1 = l2 → JW x jtbM mX12_like (d + 1) (jI P) 93 [(0, .ref (x.2.2.2 0)), (1, .int l1), (2, .int l2), (4, .int (l4 + 1))] [] M1) ∧ (¬ r1 = l2 → JC x jtbM mX12_refuse d [.ref (x.2.2.2 0), .int (9 : Int32)] M1 (jI fun M2 r2 => P M2 r2))))) :
    JW x jtbM mX12_like (d + 1) (jI P) 93 [(0, .ref (x.2.2.2 0)), (1, .int l1), (2, .int l2), (4, .int l4)] [] M := by
  refine jw_iload (pc := 93) (j := 3) dX12_like_93 rfl ?_
  refine jw_aload_n (pc := 95) (j := 0) dX12_like_95 rfl rfl ?_
  refine jw_getR (pc := 96) (r := 5) dX12_like_96 sM_0 fl_X12_35 (by decide) rfl rfl ?_
  refine jw_iconst (pc := 99) (v := 2) dX12_like_99 rfl ?_
  refine jw_iald (pc := 100) (j := 2) dX12_like_100 sM_5 (by decide) rfl (by decide) ?_
  refine jw_icmp_ge (pc := 101) (tgt := 127) dX12_like_101 (by decide) (fun c => ?_) (fun c => ?_)
  · replace h := h.1 c
    refine jw_iconst (pc := 127) (v := 0) dX12_like_127 rfl ?_
    refine jw_istore (pc := 128) (ls' := [(4, .int (0 : Int32)), (0, .ref (x.2.2.2 0)), (1, .int l1), (2, .int l2)]) dX12_like_128 (by decide) rfl ?_
    exact jw_sub [1, 2, 3, 0] rfl h
  · replace h := h.2 c
    refine jw_aload_n (pc := 104) (j := 0) dX12_like_104 rfl rfl ?_
    refine jw_iload (pc := 105) (j := 3) dX12_like_105 rfl ?_
    refine jw_callV (pc := 107) (m2 := mX12_strips) (As := [.int l4]) (st := []) dX12_like_107 sM_0 (by decide) rfl rfl gm_X12_strips ml_X12_311 rfl (Nat.le_of_ble_eq_true rfl) (JC.mono h ?_)
    clear h
    rintro M1 _ ⟨r1, rfl, h⟩
    refine jw_st (st' := [.int r1]) rfl ?_
    refine jw_iload_n (pc := 110) (j := 2) dX12_like_110 rfl rfl ?_
    refine jw_icmp_eq (pc := 111) (tgt := 121) dX12_like_111 (by decide) (fun c => ?_) (fun c => ?_)
    · replace h := h.1 c
      refine jw_iinc (pc := 121) (j := 3) (u := l4 + 1) (ls' := [(4, .int (l4 + 1)), (0, .ref (x.2.2.2 0)), (1, .int l1), (2, .int l2)]) dX12_like_121 rfl rfl (by decide) rfl ?_
      refine jw_goto (pc := 124) (tgt := 93) dX12_like_124 (by decide) ?_
      exact jw_sub [1, 2, 3, 0] rfl h
    · replace h := h.2 c
      refine jw_aload_n (pc := 114) (j := 0) dX12_like_114 rfl rfl ?_
      refine jw_bipush (pc := 115) (v := 9) dX12_like_115 rfl ?_
      refine jw_callV (pc := 117) (m2 := mX12_refuse) (As := [.int (9 : Int32)]) (st := []) dX12_like_117 sM_0 (by decide) rfl rfl gm_X12_refuse ml_X12_316 rfl (Nat.le_of_ble_eq_true rfl) (JC.mono h ?_)
      clear h
      rintro M2 _ ⟨r2, rfl, h⟩
      refine jw_st (st' := [.int r2]) rfl ?_
      exact jw_iret (pc := 120) dX12_like_120 rfl ⟨_, rfl, h⟩
set_option maxRecDepth 20000 in
theorem b_X12_like_130 {x : jX} {d : Nat} {M : jM} {P : jM → Int32 → Prop} {l1 : Int32} {l2 : Int32} {l4 : Int32} 
    (h : ((M.1 5 2) ≤ l4 → JC x jtbM mX12_tellCaps d [.ref (x.2.2.2 0)] M (jV fun M1 => JC x jtbM mX12_canKeep d [.ref (x.2.2.2 0)] M1 (jZ fun M2 b1 => (b1 = false → P M2 (0 : Int32)) ∧ (b1 = true → P M2 (1 : Int32))))) ∧ (¬ (M.1 5 2) ≤ l4 → ∃ j1, j1 < 6 ∧ l4 = nI j1 ∧ (∀ M3, M3 = jrI M 7 (upd (M.1 7) j1 (1 : Int32)) → JW x jtbM mX12_like (d + 1) (jI P) 152 [(0, .ref (x.2.2.2 0)), (1, .int l1), (2, .int l2), (4, .int l4), (5, .int (0 : Int32))] [] M3))) :
    JW x jtbM mX12_like (d + 1) (jI P) 130 [(0, .ref (x.2.2.2 0)), (1, .int l1), (2, .int l2), (4, .int l4)] [] M := by
  refine jw_iload (pc := 130) (j := 3) dX12_like_130 rfl ?_
  refine jw_aload_n (pc := 132) (j := 0) dX12_like_132 rfl rfl ?_
  refine jw_getR (pc := 133) (r := 5) dX12_like_133 sM_0 fl_X12_35 (by decide) rfl rfl ?_
  refine jw_iconst (pc := 136) (v := 2) dX12_like_136 rfl ?_
  refine jw_iald (pc := 137) (j := 2) dX12_like_137 sM_5 (by decide) rfl (by decide) ?_
  refine jw_icmp_ge (pc := 138) (tgt := 191) dX12_like_138 (by decide) (fun c => ?_) (fun c => ?_)
  · replace h := h.1 c
    refine jw_aload_n (pc := 191) (j := 0) dX12_like_191 rfl rfl ?_
    refine jw_callV (pc := 192) (m2 := mX12_tellCaps) (As := []) (st := []) dX12_like_192 sM_0 (by decide) rfl rfl gm_X12_tellCaps ml_X12_351 rfl (Nat.le_of_ble_eq_true rfl) (JC.mono h ?_)
    clear h
    rintro M1 _ ⟨rfl, h⟩
    refine jw_st (st' := []) rfl ?_
    refine jw_aload_n (pc := 195) (j := 0) dX12_like_195 rfl rfl ?_
    refine jw_callV (pc := 196) (m2 := mX12_canKeep) (As := []) (st := []) dX12_like_196 sM_0 (by decide) rfl rfl gm_X12_canKeep ml_X12_375 rfl (Nat.le_of_ble_eq_true rfl) (JC.mono h ?_)
    clear h
    rintro M2 _ ⟨b1, rfl, h⟩
    refine jw_st (st' := [.int (jb b1)]) rfl ?_
    refine jw_if_eq (pc := 199) (tgt := 206) dX12_like_199 (by decide) (fun c => ?_) (fun c => ?_)
    · replace h := h.1 ((jb_0 _).mp c)
      refine jw_iconst (pc := 206) (v := 0) dX12_like_206 rfl ?_
      exact jw_iret (pc := 207) dX12_like_207 rfl ⟨_, rfl, h⟩
    · replace h := h.2 (jb_ne c)
      refine jw_iconst (pc := 202) (v := 1) dX12_like_202 rfl ?_
      refine jw_goto (pc := 203) (tgt := 207) dX12_like_203 (by decide) ?_
      exact jw_iret (pc := 207) dX12_like_207 rfl ⟨_, rfl, h⟩
  · replace h := h.2 c
    refine jw_aload_n (pc := 141) (j := 0) dX12_like_141 rfl rfl ?_
    refine jw_getR (pc := 142) (r := 7) dX12_like_142 sM_0 fl_X12_41 (by decide) rfl rfl ?_
    refine jw_iload (pc := 145) (j := 3) dX12_like_145 rfl ?_
    refine jw_iconst (pc := 147) (v := 1) dX12_like_147 rfl ?_
    obtain ⟨j1, hj1, ej1, h⟩ := h
    refine jw_zast (pc := 148) (j := j1) dX12_like_148 sM_7 hj1 ej1 (by decide) (Or.inr rfl) ?_
    replace h := h _ rfl
    generalize jrI M 7 (upd (M.1 7) j1 (1 : Int32)) = M3 at h ⊢
    refine jw_iconst (pc := 149) (v := 0) dX12_like_149 rfl ?_
    refine jw_istore (pc := 150) (ls' := [(5, .int (0 : Int32)), (0, .ref (x.2.2.2 0)), (1, .int l1), (2, .int l2), (4, .int l4)]) dX12_like_150 (by decide) rfl ?_
    exact jw_sub [1, 2, 3, 4, 0] rfl h
set_option maxRecDepth 20000 in
theorem b_X12_like_152 {x : jX} {d : Nat} {M : jM} {P : jM → Int32 → Prop} {l1 : Int32} {l2 : Int32} {l4 : Int32} {l5 : Int32} 
    (h : (l2 ≤ l5 → JW x jtbM mX12_like (d + 1) (jI P) 130 [(0, .ref (x.2.2.2 0)), (1, .int l1), (2, .int l2), (4, .int (l4 + 1))] [] M) ∧ (¬ l2 ≤ l5 → JC x jtbM mX12_numberOf d [.ref (x.2.2.2 0), .int l1, .int l5] M (jL fun M1 r1 => ∃ j1, j1 < 54 ∧ ((9 : Int32) * l4) + l5 = nI j1 ∧ (∀ M2, M2 = jrI M1 8 (upd (M1.1 8) j1 r1.toInt32) → JW x jtbM mX12_like (d + 1) (jI P) 152 [(0, .ref (x.2.2.2 0)), (1, .int l1), (2, .int l2), (4, .int l4), (5, .int (l5 + 1))] [] M2)))) :
    JW x jtbM mX12_like (d + 1) (jI P) 152 [(0, .ref (x.2.2.2 0)), (1, .int l1), (2, .int l2), (4, .int l4), (5, .int l5)] [] M := by
  refine jw_iload (pc := 152) (j := 4) dX12_like_152 rfl ?_
  refine jw_iload_n (pc := 154) (j := 2) dX12_like_154 rfl rfl ?_
  refine jw_icmp_ge (pc := 155) (tgt := 185) dX12_like_155 (by decide) (fun c => ?_) (fun c => ?_)
  · replace h := h.1 c
    refine jw_iinc (pc := 185) (j := 3) (u := l4 + 1) (ls' := [(4, .int (l4 + 1)), (0, .ref (x.2.2.2 0)), (1, .int l1), (2, .int l2), (5, .int l5)]) dX12_like_185 rfl rfl (by decide) rfl ?_
    refine jw_goto (pc := 188) (tgt := 130) dX12_like_188 (by decide) ?_
    exact jw_sub [1, 2, 3, 0] rfl h
  · replace h := h.2 c
    refine jw_aload_n (pc := 158) (j := 0) dX12_like_158 rfl rfl ?_
    refine jw_getR (pc := 159) (r := 8) dX12_like_159 sM_0 fl_X12_45 (by decide) rfl rfl ?_
    refine jw_bipush (pc := 162) (v := 9) dX12_like_162 rfl ?_
    refine jw_iload (pc := 164) (j := 3) dX12_like_164 rfl ?_
    refine jw_imul (pc := 166) dX12_like_166 ?_
    refine jw_iload (pc := 167) (j := 4) dX12_like_167 rfl ?_
    refine jw_iadd (pc := 169) dX12_like_169 ?_
    refine jw_aload_n (pc := 170) (j := 0) dX12_like_170 rfl rfl ?_
    refine jw_iload_n (pc := 171) (j := 1) dX12_like_171 rfl rfl ?_
    refine jw_iload (pc := 172) (j := 4) dX12_like_172 rfl ?_
    refine jw_callV (pc := 174) (m2 := mX12_numberOf) (As := [.int l1, .int l5]) (st := [.int (((9 : Int32) * l4) + l5), .ref (x.2.2.2 8)]) dX12_like_174 sM_0 (by decide) rfl rfl gm_X12_numberOf ml_X12_332 rfl (Nat.le_of_ble_eq_true rfl) (JC.mono h ?_)
    clear h
    rintro M1 _ ⟨r1, rfl, h⟩
    refine jw_st (st' := [.long r1, .int (((9 : Int32) * l4) + l5), .ref (x.2.2.2 8)]) rfl ?_
    refine jw_l2i (pc := 177) dX12_like_177 ?_
    obtain ⟨j1, hj1, ej1, h⟩ := h
    refine jw_iast (pc := 178) (j := j1) dX12_like_178 sM_8 hj1 ej1 (by decide) ?_
    replace h := h _ rfl
    generalize jrI M1 8 (upd (M1.1 8) j1 r1.toInt32) = M2 at h ⊢
    refine jw_iinc (pc := 179) (j := 4) (u := l5 + 1) (ls' := [(5, .int (l5 + 1)), (0, .ref (x.2.2.2 0)), (1, .int l1), (2, .int l2), (4, .int l4)]) dX12_like_179 rfl rfl (by decide) rfl ?_
    refine jw_goto (pc := 182) (tgt := 152) dX12_like_182 (by decide) ?_
    exact jw_sub [1, 2, 3, 4, 0] rfl h
set_option maxRecDepth 20000 in
theorem b_X12_highest {x : jX} {d : Nat} {M : jM} {P : jM → Int32 → Prop}  
    (h : ∀ M1, M1 = jrI M 0 (upd (M.1 0) 1 (0 : Int32)) → ∀ M2, M2 = jrI M1 0 (upd (M1.1 0) 0 (0 : Int32)) → (¬ (M2.1 5 2) = 0 → JW x jtbM mX12_highest (d + 1) (jI P) 29 [(0, .ref (x.2.2.2 0)), (1, .int (99 : Int32))] [] M2) ∧ ((M2.1 5 2) = 0 → JC x jtbM mX12_refuse d [.ref (x.2.2.2 0), .int (8 : Int32)] M2 (jI fun M3 r1 => P M3 r1))) :
    JC x jtbM mX12_highest (d + 1) [.ref (x.2.2.2 0)] M (jI P) := by
  refine JC.of rfl (Nat.le_of_ble_eq_true rfl) ?_
  refine jw_ls (ls' := [(0, .ref (x.2.2.2 0))]) rfl ?_
  refine jw_aload_n (pc := 0) (j := 0) dX12_highest_0 rfl rfl ?_
  refine jw_iconst (pc := 1) (v := 0) dX12_highest_1 rfl ?_
  refine jw_putI (pc := 2) dX12_highest_2 sM_0 fl_X12_81 fw_12_1 (by decide) rfl ?_
  replace h := h _ rfl
  generalize jrI M 0 (upd (M.1 0) 1 (0 : Int32)) = M1 at h ⊢
  refine jw_aload_n (pc := 5) (j := 0) dX12_highest_5 rfl rfl ?_
  refine jw_iconst (pc := 6) (v := 0) dX12_highest_6 rfl ?_
  refine jw_putI (pc := 7) dX12_highest_7 sM_0 fl_X12_84 fw_12_0 (by decide) rfl ?_
  replace h := h _ rfl
  generalize jrI M1 0 (upd (M1.1 0) 0 (0 : Int32)) = M2 at h ⊢
  refine jw_aload_n (pc := 10) (j := 0) dX12_highest_10 rfl rfl ?_
  refine jw_getR (pc := 11) (r := 5) dX12_highest_11 sM_0 fl_X12_35 (by decide) rfl rfl ?_
  refine jw_iconst (pc := 14) (v := 2) dX12_highest_14 rfl ?_
  refine jw_iald (pc := 15) (j := 2) dX12_highest_15 sM_5 (by decide) rfl (by decide) ?_
  refine jw_if_ne (pc := 16) (tgt := 26) dX12_highest_16 (by decide) (fun c => ?_) (fun c => ?_)
  · replace h := h.1 c
    refine jw_bipush (pc := 26) (v := 99) dX12_highest_26 rfl ?_
    refine jw_istore_n (pc := 28) (ls' := [(1, .int (99 : Int32)), (0, .ref (x.2.2.2 0))]) dX12_highest_28 rfl (by decide) rfl ?_
    exact jw_sub [1, 0] rfl h
  · replace h := h.2 c
    refine jw_aload_n (pc := 19) (j := 0) dX12_highest_19 rfl rfl ?_
    refine jw_bipush (pc := 20) (v := 8) dX12_highest_20 rfl ?_
    refine jw_callV (pc := 22) (m2 := mX12_refuse) (As := [.int (8 : Int32)]) (st := []) dX12_highest_22 sM_0 (by decide) rfl rfl gm_X12_refuse ml_X12_316 rfl (Nat.le_of_ble_eq_true rfl) (JC.mono h ?_)
    clear h
    rintro M3 _ ⟨r1, rfl, h⟩
    refine jw_st (st' := [.int r1]) rfl ?_
    exact jw_iret (pc := 25) dX12_highest_25 rfl ⟨_, rfl, h⟩
set_option maxRecDepth 20000 in
theorem b_X12_highest_29 {x : jX} {d : Nat} {M : jM} {P : jM → Int32 → Prop} {l1 : Int32} 
    (h : (l1 < 0 → JC x jtbM mX12_refuse d [.ref (x.2.2.2 0), .int (8 : Int32)] M (jI fun M1 r1 => P M1 r1)) ∧ (¬ l1 < 0 → JW x jtbM mX12_highest (d + 1) (jI P) 35 [(0, .ref (x.2.2.2 0)), (1, .int l1), (2, .int (0 : Int32))] [] M)) :
    JW x jtbM mX12_highest (d + 1) (jI P) 29 [(0, .ref (x.2.2.2 0)), (1, .int l1)] [] M := by
  refine jw_iload_n (pc := 29) (j := 1) dX12_highest_29 rfl rfl ?_
  refine jw_if_lt (pc := 30) (tgt := 106) dX12_highest_30 (by decide) (fun c => ?_) (fun c => ?_)
  · replace h := h.1 c
    refine jw_aload_n (pc := 106) (j := 0) dX12_highest_106 rfl rfl ?_
    refine jw_bipush (pc := 107) (v := 8) dX12_highest_107 rfl ?_
    refine jw_callV (pc := 109) (m2 := mX12_refuse) (As := [.int (8 : Int32)]) (st := []) dX12_highest_109 sM_0 (by decide) rfl rfl gm_X12_refuse ml_X12_316 rfl (Nat.le_of_ble_eq_true rfl) (JC.mono h ?_)
    clear h
    rintro M1 _ ⟨r1, rfl, h⟩
    refine jw_st (st' := [.int r1]) rfl ?_
    exact jw_iret (pc := 112) dX12_highest_112 rfl ⟨_, rfl, h⟩
  · replace h := h.2 c
    refine jw_iconst (pc := 33) (v := 0) dX12_highest_33 rfl ?_
    refine jw_istore_n (pc := 34) (ls' := [(2, .int (0 : Int32)), (0, .ref (x.2.2.2 0)), (1, .int l1)]) dX12_highest_34 rfl (by decide) rfl ?_
    exact jw_sub [1, 2, 0] rfl h
set_option maxRecDepth 20000 in
theorem b_X12_highest_35 {x : jX} {d : Nat} {M : jM} {P : jM → Int32 → Prop} {l1 : Int32} {l2 : Int32} 
    (h : ((M.1 5 2) ≤ l2 → JC x jtbM mX12_tellCaps d [.ref (x.2.2.2 0)] M (jV fun M1 => JC x jtbM mX12_canKeep d [.ref (x.2.2.2 0)] M1 (jZ fun M2 b1 => (b1 = false → JW x jtbM mX12_highest (d + 1) (jI P) 29 [(0, .ref (x.2.2.2 0)), (1, .int (l1 + (-1)))] [] M2) ∧ (b1 = true → P M2 l1)))) ∧ (¬ (M.1 5 2) ≤ l2 → ∃ j1, j1 < 6 ∧ l2 = nI j1 ∧ (∀ M3, M3 = jrI M 7 (upd (M.1 7) j1 (1 : Int32)) → JW x jtbM mX12_highest (d + 1) (jI P) 54 [(0, .ref (x.2.2.2 0)), (1, .int l1), (2, .int l2), (3, .int (0 : Int32))] [] M3))) :
    JW x jtbM mX12_highest (d + 1) (jI P) 35 [(0, .ref (x.2.2.2 0)), (1, .int l1), (2, .int l2)] [] M := by
  refine jw_iload_n (pc := 35) (j := 2) dX12_highest_35 rfl rfl ?_
  refine jw_aload_n (pc := 36) (j := 0) dX12_highest_36 rfl rfl ?_
  refine jw_getR (pc := 37) (r := 5) dX12_highest_37 sM_0 fl_X12_35 (by decide) rfl rfl ?_
  refine jw_iconst (pc := 40) (v := 2) dX12_highest_40 rfl ?_
  refine jw_iald (pc := 41) (j := 2) dX12_highest_41 sM_5 (by decide) rfl (by decide) ?_
  refine jw_icmp_ge (pc := 42) (tgt := 87) dX12_highest_42 (by decide) (fun c => ?_) (fun c => ?_)
  · replace h := h.1 c
    refine jw_aload_n (pc := 87) (j := 0) dX12_highest_87 rfl rfl ?_
    refine jw_callV (pc := 88) (m2 := mX12_tellCaps) (As := []) (st := []) dX12_highest_88 sM_0 (by decide) rfl rfl gm_X12_tellCaps ml_X12_351 rfl (Nat.le_of_ble_eq_true rfl) (JC.mono h ?_)
    clear h
    rintro M1 _ ⟨rfl, h⟩
    refine jw_st (st' := []) rfl ?_
    refine jw_aload_n (pc := 91) (j := 0) dX12_highest_91 rfl rfl ?_
    refine jw_callV (pc := 92) (m2 := mX12_canKeep) (As := []) (st := []) dX12_highest_92 sM_0 (by decide) rfl rfl gm_X12_canKeep ml_X12_375 rfl (Nat.le_of_ble_eq_true rfl) (JC.mono h ?_)
    clear h
    rintro M2 _ ⟨b1, rfl, h⟩
    refine jw_st (st' := [.int (jb b1)]) rfl ?_
    refine jw_if_eq (pc := 95) (tgt := 100) dX12_highest_95 (by decide) (fun c => ?_) (fun c => ?_)
    · replace h := h.1 ((jb_0 _).mp c)
      refine jw_iinc (pc := 100) (j := 1) (u := l1 + (-1)) (ls' := [(1, .int (l1 + (-1))), (0, .ref (x.2.2.2 0)), (2, .int l2)]) dX12_highest_100 rfl rfl (by decide) rfl ?_
      refine jw_goto (pc := 103) (tgt := 29) dX12_highest_103 (by decide) ?_
      exact jw_sub [1, 0] rfl h
    · replace h := h.2 (jb_ne c)
      refine jw_iload_n (pc := 98) (j := 1) dX12_highest_98 rfl rfl ?_
      exact jw_iret (pc := 99) dX12_highest_99 rfl ⟨_, rfl, h⟩
  · replace h := h.2 c
    refine jw_aload_n (pc := 45) (j := 0) dX12_highest_45 rfl rfl ?_
    refine jw_getR (pc := 46) (r := 7) dX12_highest_46 sM_0 fl_X12_41 (by decide) rfl rfl ?_
    refine jw_iload_n (pc := 49) (j := 2) dX12_highest_49 rfl rfl ?_
    refine jw_iconst (pc := 50) (v := 1) dX12_highest_50 rfl ?_
    obtain ⟨j1, hj1, ej1, h⟩ := h
    refine jw_zast (pc := 51) (j := j1) dX12_highest_51 sM_7 hj1 ej1 (by decide) (Or.inr rfl) ?_
    replace h := h _ rfl
    generalize jrI M 7 (upd (M.1 7) j1 (1 : Int32)) = M3 at h ⊢
    refine jw_iconst (pc := 52) (v := 0) dX12_highest_52 rfl ?_
    refine jw_istore_n (pc := 53) (ls' := [(3, .int (0 : Int32)), (0, .ref (x.2.2.2 0)), (1, .int l1), (2, .int l2)]) dX12_highest_53 rfl (by decide) rfl ?_
    exact jw_sub [1, 2, 3, 0] rfl h
set_option maxRecDepth 20000 in
theorem b_X12_highest_54 {x : jX} {d : Nat} {M : jM} {P : jM → Int32 → Prop} {l1 : Int32} {l2 : Int32} {l3 : Int32} 
    (h : JC x jtbM mX12_strips d [.ref (x.2.2.2 0), .int l2] M (jI fun M1 r1 => (r1 ≤ l3 → JW x jtbM mX12_highest (d + 1) (jI P) 35 [(0, .ref (x.2.2.2 0)), (1, .int l1), (2, .int (l2 + 1))] [] M1) ∧ (¬ r1 ≤ l3 → ∃ j1, j1 < 54 ∧ ((9 : Int32) * l2) + l3 = nI j1 ∧ (∀ M2, M2 = jrI M1 8 (upd (M1.1 8) j1 l1) → JW x jtbM mX12_highest (d + 1) (jI P) 54 [(0, .ref (x.2.2.2 0)), (1, .int l1), (2, .int l2), (3, .int (l3 + 1))] [] M2)))) :
    JW x jtbM mX12_highest (d + 1) (jI P) 54 [(0, .ref (x.2.2.2 0)), (1, .int l1), (2, .int l2), (3, .int l3)] [] M := by
  refine jw_iload_n (pc := 54) (j := 3) dX12_highest_54 rfl rfl ?_
  refine jw_aload_n (pc := 55) (j := 0) dX12_highest_55 rfl rfl ?_
  refine jw_iload_n (pc := 56) (j := 2) dX12_highest_56 rfl rfl ?_
  refine jw_callV (pc := 57) (m2 := mX12_strips) (As := [.int l2]) (st := [.int l3]) dX12_highest_57 sM_0 (by decide) rfl rfl gm_X12_strips ml_X12_311 rfl (Nat.le_of_ble_eq_true rfl) (JC.mono h ?_)
  clear h
  rintro M1 _ ⟨r1, rfl, h⟩
  refine jw_st (st' := [.int r1, .int l3]) rfl ?_
  refine jw_icmp_ge (pc := 60) (tgt := 81) dX12_highest_60 (by decide) (fun c => ?_) (fun c => ?_)
  · replace h := h.1 c
    refine jw_iinc (pc := 81) (j := 2) (u := l2 + 1) (ls' := [(2, .int (l2 + 1)), (0, .ref (x.2.2.2 0)), (1, .int l1), (3, .int l3)]) dX12_highest_81 rfl rfl (by decide) rfl ?_
    refine jw_goto (pc := 84) (tgt := 35) dX12_highest_84 (by decide) ?_
    exact jw_sub [1, 2, 0] rfl h
  · replace h := h.2 c
    refine jw_aload_n (pc := 63) (j := 0) dX12_highest_63 rfl rfl ?_
    refine jw_getR (pc := 64) (r := 8) dX12_highest_64 sM_0 fl_X12_45 (by decide) rfl rfl ?_
    refine jw_bipush (pc := 67) (v := 9) dX12_highest_67 rfl ?_
    refine jw_iload_n (pc := 69) (j := 2) dX12_highest_69 rfl rfl ?_
    refine jw_imul (pc := 70) dX12_highest_70 ?_
    refine jw_iload_n (pc := 71) (j := 3) dX12_highest_71 rfl rfl ?_
    refine jw_iadd (pc := 72) dX12_highest_72 ?_
    refine jw_iload_n (pc := 73) (j := 1) dX12_highest_73 rfl rfl ?_
    obtain ⟨j1, hj1, ej1, h⟩ := h
    refine jw_iast (pc := 74) (j := j1) dX12_highest_74 sM_8 hj1 ej1 (by decide) ?_
    replace h := h _ rfl
    generalize jrI M1 8 (upd (M1.1 8) j1 l1) = M2 at h ⊢
    refine jw_iinc (pc := 75) (j := 3) (u := l3 + 1) (ls' := [(3, .int (l3 + 1)), (0, .ref (x.2.2.2 0)), (1, .int l1), (2, .int l2)]) dX12_highest_75 rfl rfl (by decide) rfl ?_
    refine jw_goto (pc := 78) (tgt := 54) dX12_highest_78 (by decide) ?_
    exact jw_sub [1, 2, 3, 0] rfl h
set_option maxRecDepth 20000 in
theorem b_X12_readSign {x : jX} {d : Nat} {M : jM} {P : jM → Prop} {a1 : Int32} {a2 : Int32} 
    (h : (¬ (M.1 0 14) = (3 : Int32) → JW x jtbM mX12_readSign (d + 1) (jV P) 16 [(0, .ref (x.2.2.2 0)), (1, .int a1), (2, .int a2)] [.int (0 : Int32)] M) ∧ ((M.1 0 14) = (3 : Int32) → JW x jtbM mX12_readSign (d + 1) (jV P) 16 [(0, .ref (x.2.2.2 0)), (1, .int a1), (2, .int a2)] [.int (M.1 0 17)] M)) :
    JC x jtbM mX12_readSign (d + 1) [.ref (x.2.2.2 0), .int a1, .int a2] M (jV P) := by
  refine JC.of rfl (Nat.le_of_ble_eq_true rfl) ?_
  refine jw_ls (ls' := [(0, .ref (x.2.2.2 0)), (1, .int a1), (2, .int a2)]) rfl ?_
  refine jw_aload_n (pc := 0) (j := 0) dX12_readSign_0 rfl rfl ?_
  refine jw_getI (pc := 1) dX12_readSign_1 sM_0 fl_X12_132 (by decide) rfl ?_
  refine jw_iconst (pc := 4) (v := 3) dX12_readSign_4 rfl ?_
  refine jw_icmp_ne (pc := 5) (tgt := 15) dX12_readSign_5 (by decide) (fun c => ?_) (fun c => ?_)
  · replace h := h.1 c
    refine jw_iconst (pc := 15) (v := 0) dX12_readSign_15 rfl ?_
    exact jw_sub [0, 1, 2] rfl h
  · replace h := h.2 c
    refine jw_aload_n (pc := 8) (j := 0) dX12_readSign_8 rfl rfl ?_
    refine jw_getI (pc := 9) dX12_readSign_9 sM_0 fl_X12_151 (by decide) rfl ?_
    refine jw_goto (pc := 12) (tgt := 16) dX12_readSign_12 (by decide) ?_
    exact jw_sub [0, 1, 2] rfl h
set_option maxRecDepth 20000 in
theorem b_X12_readSign_16 {x : jX} {d : Nat} {M : jM} {P : jM → Prop} {l1 : Int32} {l2 : Int32} {k0 : Int32} 
    (h : JC x jtbM mX12_isSign d [.ref (x.2.2.2 0), .int (60 : Int32)] M (jZ fun M1 b1 => (b1 = true → JW x jtbM mX12_readSign (d + 1) (jV P) 50 [(0, .ref (x.2.2.2 0)), (1, .int l1), (2, .int l2), (3, .int k0)] [.int (1 : Int32), .ref (x.2.2.2 0)] M1) ∧ (b1 = false → JC x jtbM mX12_isSign d [.ref (x.2.2.2 0), .int (62 : Int32)] M1 (jZ fun M2 b2 => (b2 = true → JW x jtbM mX12_readSign (d + 1) (jV P) 50 [(0, .ref (x.2.2.2 0)), (1, .int l1), (2, .int l2), (3, .int k0)] [.int (1 : Int32), .ref (x.2.2.2 0)] M2) ∧ (b2 = false → JC x jtbM mX12_isSign d [.ref (x.2.2.2 0), .int (61 : Int32)] M2 (jZ fun M3 b3 => (b3 = false → JW x jtbM mX12_readSign (d + 1) (jV P) 50 [(0, .ref (x.2.2.2 0)), (1, .int l1), (2, .int l2), (3, .int k0)] [.int (0 : Int32), .ref (x.2.2.2 0)] M3) ∧ (b3 = true → JW x jtbM mX12_readSign (d + 1) (jV P) 50 [(0, .ref (x.2.2.2 0)), (1, .int l1), (2, .int l2), (3, .int k0)] [.int (1 : Int32), .ref (x.2.2.2 0)] M3))))))) :
    JW x jtbM mX12_readSign (d + 1) (jV P) 16 [(0, .ref (x.2.2.2 0)), (1, .int l1), (2, .int l2)] [.int k0] M := by
  refine jw_istore_n (pc := 16) (ls' := [(3, .int k0), (0, .ref (x.2.2.2 0)), (1, .int l1), (2, .int l2)]) dX12_readSign_16 rfl (by decide) rfl ?_
  refine jw_aload_n (pc := 17) (j := 1) dX12_readSign_17 rfl rfl ?_
  refine jw_aload_n (pc := 18) (j := 1) dX12_readSign_18 rfl rfl ?_
  refine jw_bipush (pc := 19) (v := 60) dX12_readSign_19 rfl ?_
  refine jw_callV (pc := 21) (m2 := mX12_isSign) (As := [.int (60 : Int32)]) (st := [.ref (x.2.2.2 0)]) dX12_readSign_21 sM_0 (by decide) rfl rfl gm_X12_isSign ml_X12_252 rfl (Nat.le_of_ble_eq_true rfl) (JC.mono h ?_)
  clear h
  rintro M1 _ ⟨b1, rfl, h⟩
  refine jw_st (st' := [.int (jb b1), .ref (x.2.2.2 0)]) rfl ?_
  refine jw_if_ne (pc := 24) (tgt := 45) dX12_readSign_24 (by decide) (fun c => ?_) (fun c => ?_)
  · replace h := h.1 (jb_ne c)
    refine jw_iconst (pc := 45) (v := 1) dX12_readSign_45 rfl ?_
    refine jw_goto (pc := 46) (tgt := 50) dX12_readSign_46 (by decide) ?_
    exact jw_sub [1, 2, 3, 0] rfl h
  · replace h := h.2 ((jb_0 _).mp c)
    refine jw_aload_n (pc := 27) (j := 1) dX12_readSign_27 rfl rfl ?_
    refine jw_bipush (pc := 28) (v := 62) dX12_readSign_28 rfl ?_
    refine jw_callV (pc := 30) (m2 := mX12_isSign) (As := [.int (62 : Int32)]) (st := [.ref (x.2.2.2 0)]) dX12_readSign_30 sM_0 (by decide) rfl rfl gm_X12_isSign ml_X12_252 rfl (Nat.le_of_ble_eq_true rfl) (JC.mono h ?_)
    clear h
    rintro M2 _ ⟨b2, rfl, h⟩
    refine jw_st (st' := [.int (jb b2), .ref (x.2.2.2 0)]) rfl ?_
    refine jw_if_ne (pc := 33) (tgt := 45) dX12_readSign_33 (by decide) (fun c => ?_) (fun c => ?_)
    · replace h := h.1 (jb_ne c)
      refine jw_iconst (pc := 45) (v := 1) dX12_readSign_45 rfl ?_
      refine jw_goto (pc := 46) (tgt := 50) dX12_readSign_46 (by decide) ?_
      exact jw_sub [1, 2, 3, 0] rfl h
    · replace h := h.2 ((jb_0 _).mp c)
      refine jw_aload_n (pc := 36) (j := 1) dX12_readSign_36 rfl rfl ?_
      refine jw_bipush (pc := 37) (v := 61) dX12_readSign_37 rfl ?_
      refine jw_callV (pc := 39) (m2 := mX12_isSign) (As := [.int (61 : Int32)]) (st := [.ref (x.2.2.2 0)]) dX12_readSign_39 sM_0 (by decide) rfl rfl gm_X12_isSign ml_X12_252 rfl (Nat.le_of_ble_eq_true rfl) (JC.mono h ?_)
      clear h
      rintro M3 _ ⟨b3, rfl, h⟩
      refine jw_st (st' := [.int (jb b3), .ref (x.2.2.2 0)]) rfl ?_
      refine jw_if_eq (pc := 42) (tgt := 49) dX12_readSign_42 (by decide) (fun c => ?_) (fun c => ?_)
      · replace h := h.1 ((jb_0 _).mp c)
        refine jw_iconst (pc := 49) (v := 0) dX12_readSign_49 rfl ?_
        exact jw_sub [1, 2, 3, 0] rfl h
      · replace h := h.2 (jb_ne c)
        refine jw_iconst (pc := 45) (v := 1) dX12_readSign_45 rfl ?_
        refine jw_goto (pc := 46) (tgt := 50) dX12_readSign_46 (by decide) ?_
        exact jw_sub [1, 2, 3, 0] rfl h
set_option maxRecDepth 20000 in
theorem b_X12_readSign_50 {x : jX} {d : Nat} {M : jM} {P : jM → Prop} {l1 : Int32} {l2 : Int32} {l3 : Int32} {k0 : Int32} 
    (h : JC x jtbM mX12_must d [.ref (x.2.2.2 0), .int k0] M (jV fun M1 => ∃ j1, j1 < 2060 ∧ l1 + (5 : Int32) = nI j1 ∧ (∀ M2, M2 = jrI M1 5 (upd (M1.1 5) j1 l3) → JC x jtbM mX12_count d [.ref (x.2.2.2 0), .int (0 : Int32), .int l2] M2 (jI fun M3 r1 => ∃ j2, j2 < 2060 ∧ l1 + (6 : Int32) = nI j2 ∧ (∀ M4, M4 = jrI M3 5 (upd (M3.1 5) j2 r1) → P M4))))) :
    JW x jtbM mX12_readSign (d + 1) (jV P) 50 [(0, .ref (x.2.2.2 0)), (1, .int l1), (2, .int l2), (3, .int l3)] [.int k0, .ref (x.2.2.2 0)] M := by
  refine jw_callV (pc := 50) (m2 := mX12_must) (As := [.int k0]) (st := []) dX12_readSign_50 sM_0 (by decide) rfl rfl gm_X12_must ml_X12_265 rfl (Nat.le_of_ble_eq_true rfl) (JC.mono h ?_)
  clear h
  rintro M1 _ ⟨rfl, h⟩
  refine jw_st (st' := []) rfl ?_
  refine jw_aload_n (pc := 53) (j := 0) dX12_readSign_53 rfl rfl ?_
  refine jw_getR (pc := 54) (r := 5) dX12_readSign_54 sM_0 fl_X12_35 (by decide) rfl rfl ?_
  refine jw_iload_n (pc := 57) (j := 1) dX12_readSign_57 rfl rfl ?_
  refine jw_iconst (pc := 58) (v := 5) dX12_readSign_58 rfl ?_
  refine jw_iadd (pc := 59) dX12_readSign_59 ?_
  refine jw_iload_n (pc := 60) (j := 3) dX12_readSign_60 rfl rfl ?_
  obtain ⟨j1, hj1, ej1, h⟩ := h
  refine jw_iast (pc := 61) (j := j1) dX12_readSign_61 sM_5 hj1 ej1 (by decide) ?_
  replace h := h _ rfl
  generalize jrI M1 5 (upd (M1.1 5) j1 l3) = M2 at h ⊢
  refine jw_aload_n (pc := 62) (j := 0) dX12_readSign_62 rfl rfl ?_
  refine jw_getR (pc := 63) (r := 5) dX12_readSign_63 sM_0 fl_X12_35 (by decide) rfl rfl ?_
  refine jw_iload_n (pc := 66) (j := 1) dX12_readSign_66 rfl rfl ?_
  refine jw_bipush (pc := 67) (v := 6) dX12_readSign_67 rfl ?_
  refine jw_iadd (pc := 69) dX12_readSign_69 ?_
  refine jw_aload_n (pc := 70) (j := 0) dX12_readSign_70 rfl rfl ?_
  refine jw_iconst (pc := 71) (v := 0) dX12_readSign_71 rfl ?_
  refine jw_iload_n (pc := 72) (j := 2) dX12_readSign_72 rfl rfl ?_
  refine jw_callV (pc := 73) (m2 := mX12_count) (As := [.int (0 : Int32), .int l2]) (st := [.int (l1 + (6 : Int32)), .ref (x.2.2.2 5)]) dX12_readSign_73 sM_0 (by decide) rfl rfl gm_X12_count ml_X12_292 rfl (Nat.le_of_ble_eq_true rfl) (JC.mono h ?_)
  clear h
  rintro M3 _ ⟨r1, rfl, h⟩
  refine jw_st (st' := [.int r1, .int (l1 + (6 : Int32)), .ref (x.2.2.2 5)]) rfl ?_
  obtain ⟨j2, hj2, ej2, h⟩ := h
  refine jw_iast (pc := 76) (j := j2) dX12_readSign_76 sM_5 hj2 ej2 (by decide) ?_
  replace h := h _ rfl
  generalize jrI M3 5 (upd (M3.1 5) j2 r1) = M4 at h ⊢
  exact jw_vret (pc := 77) dX12_readSign_77 rfl ⟨rfl, h⟩
set_option maxRecDepth 20000 in
theorem b_X12_readName {x : jX} {d : Nat} {M : jM} {P : jM → Int32 → Prop}  
    (h : (¬ (M.1 0 12) = 0 → JW x jtbM mX12_readName (d + 1) (jI P) 18 [(0, .ref (x.2.2.2 0))] [] M) ∧ ((M.1 0 12) = 0 → JC x jtbM mX12_isName d [.ref (x.2.2.2 0)] M (jZ fun M1 b1 => (b1 = true → JW x jtbM mX12_readName (d + 1) (jI P) 18 [(0, .ref (x.2.2.2 0))] [] M1) ∧ (b1 = false → JC x jtbM mX12_wrong d [.ref (x.2.2.2 0)] M1 (jV fun M2 => JW x jtbM mX12_readName (d + 1) (jI P) 18 [(0, .ref (x.2.2.2 0))] [] M2))))) :
    JC x jtbM mX12_readName (d + 1) [.ref (x.2.2.2 0)] M (jI P) := by
  refine JC.of rfl (Nat.le_of_ble_eq_true rfl) ?_
  refine jw_ls (ls' := [(0, .ref (x.2.2.2 0))]) rfl ?_
  refine jw_aload_n (pc := 0) (j := 0) dX12_readName_0 rfl rfl ?_
  refine jw_getI (pc := 1) dX12_readName_1 sM_0 fl_X12_229 (by decide) rfl ?_
  refine jw_if_ne (pc := 4) (tgt := 18) dX12_readName_4 (by decide) (fun c => ?_) (fun c => ?_)
  · replace h := h.1 c
    exact jw_sub [0] rfl h
  · replace h := h.2 c
    refine jw_aload_n (pc := 7) (j := 0) dX12_readName_7 rfl rfl ?_
    refine jw_callV (pc := 8) (m2 := mX12_isName) (As := []) (st := []) dX12_readName_8 sM_0 (by decide) rfl rfl gm_X12_isName ml_X12_259 rfl (Nat.le_of_ble_eq_true rfl) (JC.mono h ?_)
    clear h
    rintro M1 _ ⟨b1, rfl, h⟩
    refine jw_st (st' := [.int (jb b1)]) rfl ?_
    refine jw_if_ne (pc := 11) (tgt := 18) dX12_readName_11 (by decide) (fun c => ?_) (fun c => ?_)
    · replace h := h.1 (jb_ne c)
      exact jw_sub [0] rfl h
    · replace h := h.2 ((jb_0 _).mp c)
      refine jw_aload_n (pc := 14) (j := 0) dX12_readName_14 rfl rfl ?_
      refine jw_callV (pc := 15) (m2 := mX12_wrong) (As := []) (st := []) dX12_readName_15 sM_0 (by decide) rfl rfl gm_X12_wrong ml_X12_242 rfl (Nat.le_of_ble_eq_true rfl) (JC.mono h ?_)
      clear h
      rintro M2 _ ⟨rfl, h⟩
      refine jw_st (st' := []) rfl ?_
      exact jw_sub [0] rfl h
set_option maxRecDepth 20000 in
theorem b_X12_readName_18 {x : jX} {d : Nat} {M : jM} {P : jM → Int32 → Prop}  
    (h : (¬ (M.1 0 12) = 0 → JW x jtbM mX12_readName (d + 1) (jI P) 40 [(0, .ref (x.2.2.2 0))] [.int (0 : Int32)] M) ∧ ((M.1 0 12) = 0 → JC x jtbM mX12_named d [.ref (x.2.2.2 0), .int (0 : Int32), .int (M.1 5 2)] M (jI fun M1 r1 => JW x jtbM mX12_readName (d + 1) (jI P) 40 [(0, .ref (x.2.2.2 0))] [.int r1] M1))) :
    JW x jtbM mX12_readName (d + 1) (jI P) 18 [(0, .ref (x.2.2.2 0))] [] M := by
  refine jw_aload_n (pc := 18) (j := 0) dX12_readName_18 rfl rfl ?_
  refine jw_getI (pc := 19) dX12_readName_19 sM_0 fl_X12_229 (by decide) rfl ?_
  refine jw_if_ne (pc := 22) (tgt := 39) dX12_readName_22 (by decide) (fun c => ?_) (fun c => ?_)
  · replace h := h.1 c
    refine jw_iconst (pc := 39) (v := 0) dX12_readName_39 rfl ?_
    exact jw_sub [0] rfl h
  · replace h := h.2 c
    refine jw_aload_n (pc := 25) (j := 0) dX12_readName_25 rfl rfl ?_
    refine jw_iconst (pc := 26) (v := 0) dX12_readName_26 rfl ?_
    refine jw_aload_n (pc := 27) (j := 0) dX12_readName_27 rfl rfl ?_
    refine jw_getR (pc := 28) (r := 5) dX12_readName_28 sM_0 fl_X12_35 (by decide) rfl rfl ?_
    refine jw_iconst (pc := 31) (v := 2) dX12_readName_31 rfl ?_
    refine jw_iald (pc := 32) (j := 2) dX12_readName_32 sM_5 (by decide) rfl (by decide) ?_
    refine jw_callV (pc := 33) (m2 := mX12_named) (As := [.int (0 : Int32), .int (M.1 5 2)]) (st := []) dX12_readName_33 sM_0 (by decide) rfl rfl gm_X12_named ml_X12_262 rfl (Nat.le_of_ble_eq_true rfl) (JC.mono h ?_)
    clear h
    rintro M1 _ ⟨r1, rfl, h⟩
    refine jw_st (st' := [.int r1]) rfl ?_
    refine jw_goto (pc := 36) (tgt := 40) dX12_readName_36 (by decide) ?_
    exact jw_sub [0] rfl h
set_option maxRecDepth 20000 in
theorem b_X12_readName_40 {x : jX} {d : Nat} {M : jM} {P : jM → Int32 → Prop} {k0 : Int32} 
    (h : (¬ (M.1 0 12) = 0 → JC x jtbM mX12_must d [.ref (x.2.2.2 0), .int (1 : Int32)] M (jV fun M1 => P M1 k0)) ∧ ((M.1 0 12) = 0 → (0 ≤ k0 → JC x jtbM mX12_must d [.ref (x.2.2.2 0), .int (1 : Int32)] M (jV fun M2 => P M2 k0)) ∧ (¬ 0 ≤ k0 → JC x jtbM mX12_fail d [.ref (x.2.2.2 0), .int (3 : Int32), .int (M.1 0 15)] M (jV fun M3 => JC x jtbM mX12_must d [.ref (x.2.2.2 0), .int (1 : Int32)] M3 (jV fun M4 => P M4 k0))))) :
    JW x jtbM mX12_readName (d + 1) (jI P) 40 [(0, .ref (x.2.2.2 0))] [.int k0] M := by
  refine jw_istore_n (pc := 40) (ls' := [(1, .int k0), (0, .ref (x.2.2.2 0))]) dX12_readName_40 rfl (by decide) rfl ?_
  refine jw_aload_n (pc := 41) (j := 1) dX12_readName_41 rfl rfl ?_
  refine jw_getI (pc := 42) dX12_readName_42 sM_0 fl_X12_229 (by decide) rfl ?_
  refine jw_if_ne (pc := 45) (tgt := 61) dX12_readName_45 (by decide) (fun c => ?_) (fun c => ?_)
  · replace h := h.1 c
    refine jw_aload_n (pc := 61) (j := 1) dX12_readName_61 rfl rfl ?_
    refine jw_iconst (pc := 62) (v := 1) dX12_readName_62 rfl ?_
    refine jw_callV (pc := 63) (m2 := mX12_must) (As := [.int (1 : Int32)]) (st := []) dX12_readName_63 sM_0 (by decide) rfl rfl gm_X12_must ml_X12_265 rfl (Nat.le_of_ble_eq_true rfl) (JC.mono h ?_)
    clear h
    rintro M1 _ ⟨rfl, h⟩
    refine jw_st (st' := []) rfl ?_
    refine jw_iload_n (pc := 66) (j := 0) dX12_readName_66 rfl rfl ?_
    exact jw_iret (pc := 67) dX12_readName_67 rfl ⟨_, rfl, h⟩
  · replace h := h.2 c
    refine jw_iload_n (pc := 48) (j := 0) dX12_readName_48 rfl rfl ?_
    refine jw_if_ge (pc := 49) (tgt := 61) dX12_readName_49 (by decide) (fun c => ?_) (fun c => ?_)
    · replace h := h.1 c
      refine jw_aload_n (pc := 61) (j := 1) dX12_readName_61 rfl rfl ?_
      refine jw_iconst (pc := 62) (v := 1) dX12_readName_62 rfl ?_
      refine jw_callV (pc := 63) (m2 := mX12_must) (As := [.int (1 : Int32)]) (st := []) dX12_readName_63 sM_0 (by decide) rfl rfl gm_X12_must ml_X12_265 rfl (Nat.le_of_ble_eq_true rfl) (JC.mono h ?_)
      clear h
      rintro M2 _ ⟨rfl, h⟩
      refine jw_st (st' := []) rfl ?_
      refine jw_iload_n (pc := 66) (j := 0) dX12_readName_66 rfl rfl ?_
      exact jw_iret (pc := 67) dX12_readName_67 rfl ⟨_, rfl, h⟩
    · replace h := h.2 c
      refine jw_aload_n (pc := 52) (j := 1) dX12_readName_52 rfl rfl ?_
      refine jw_iconst (pc := 53) (v := 3) dX12_readName_53 rfl ?_
      refine jw_aload_n (pc := 54) (j := 1) dX12_readName_54 rfl rfl ?_
      refine jw_getI (pc := 55) dX12_readName_55 sM_0 fl_X12_126 (by decide) rfl ?_
      refine jw_callV (pc := 58) (m2 := mX12_fail) (As := [.int (3 : Int32), .int (M.1 0 15)]) (st := []) dX12_readName_58 sM_0 (by decide) rfl rfl gm_X12_fail ml_X12_235 rfl (Nat.le_of_ble_eq_true rfl) (JC.mono h ?_)
      clear h
      rintro M3 _ ⟨rfl, h⟩
      refine jw_st (st' := []) rfl ?_
      refine jw_aload_n (pc := 61) (j := 1) dX12_readName_61 rfl rfl ?_
      refine jw_iconst (pc := 62) (v := 1) dX12_readName_62 rfl ?_
      refine jw_callV (pc := 63) (m2 := mX12_must) (As := [.int (1 : Int32)]) (st := []) dX12_readName_63 sM_0 (by decide) rfl rfl gm_X12_must ml_X12_265 rfl (Nat.le_of_ble_eq_true rfl) (JC.mono h ?_)
      clear h
      rintro M4 _ ⟨rfl, h⟩
      refine jw_st (st' := []) rfl ?_
      refine jw_iload_n (pc := 66) (j := 0) dX12_readName_66 rfl rfl ?_
      exact jw_iret (pc := 67) dX12_readName_67 rfl ⟨_, rfl, h⟩
set_option maxRecDepth 20000 in
theorem b_X12_readTest {x : jX} {d : Nat} {M : jM} {P : jM → Prop} {a1 : Int32} 
    (h : JC x jtbM mX12_isCellWord d [.ref (x.2.2.2 0)] M (jZ fun M1 b1 => (b1 = false → JC x jtbM mX12_isSees d [.ref (x.2.2.2 0)] M1 (jZ fun M2 b2 => (b2 = false → JC x jtbM mX12_isSame d [.ref (x.2.2.2 0)] M2 (jZ fun M3 b3 => (b3 = false → JC x jtbM mX12_isStone d [.ref (x.2.2.2 0)] M3 (jZ fun M4 b4 => (b4 = false → ((-1 : Int32) < 0 → JW x jtbM mX12_readTest (d + 1) (jV P) 56 [(0, .ref (x.2.2.2 0)), (1, .int a1), (2, .int (-1 : Int32))] [.int (0 : Int32), .ref (x.2.2.2 0)] M4) ∧ (¬ (-1 : Int32) < 0 → JW x jtbM mX12_readTest (d + 1) (jV P) 56 [(0, .ref (x.2.2.2 0)), (1, .int a1), (2, .int (-1 : Int32))] [.int (1 : Int32), .ref (x.2.2.2 0)] M4)) ∧ (b4 = true → ((3 : Int32) < 0 → JW x jtbM mX12_readTest (d + 1) (jV P) 56 [(0, .ref (x.2.2.2 0)), (1, .int a1), (2, .int (3 : Int32))] [.int (0 : Int32), .ref (x.2.2.2 0)] M4) ∧ (¬ (3 : Int32) < 0 → JW x jtbM mX12_readTest (d + 1) (jV P) 56 [(0, .ref (x.2.2.2 0)), (1, .int a1), (2, .int (3 : Int32))] [.int (1 : Int32), .ref (x.2.2.2 0)] M4)))) ∧ (b3 = true → ((2 : Int32) < 0 → JW x jtbM mX12_readTest (d + 1) (jV P) 56 [(0, .ref (x.2.2.2 0)), (1, .int a1), (2, .int (2 : Int32))] [.int (0 : Int32), .ref (x.2.2.2 0)] M3) ∧ (¬ (2 : Int32) < 0 → JW x jtbM mX12_readTest (d + 1) (jV P) 56 [(0, .ref (x.2.2.2 0)), (1, .int a1), (2, .int (2 : Int32))] [.int (1 : Int32), .ref (x.2.2.2 0)] M3)))) ∧ (b2 = true → ((1 : Int32) < 0 → JW x jtbM mX12_readTest (d + 1) (jV P) 56 [(0, .ref (x.2.2.2 0)), (1, .int a1), (2, .int (1 : Int32))] [.int (0 : Int32), .ref (x.2.2.2 0)] M2) ∧ (¬ (1 : Int32) < 0 → JW x jtbM mX12_readTest (d + 1) (jV P) 56 [(0, .ref (x.2.2.2 0)), (1, .int a1), (2, .int (1 : Int32))] [.int (1 : Int32), .ref (x.2.2.2 0)] M2)))) ∧ (b1 = true → ((0 : Int32) < 0 → JW x jtbM mX12_readTest (d + 1) (jV P) 56 [(0, .ref (x.2.2.2 0)), (1, .int a1), (2, .int (0 : Int32))] [.int (0 : Int32), .ref (x.2.2.2 0)] M1) ∧ (¬ (0 : Int32) < 0 → JW x jtbM mX12_readTest (d + 1) (jV P) 56 [(0, .ref (x.2.2.2 0)), (1, .int a1), (2, .int (0 : Int32))] [.int (1 : Int32), .ref (x.2.2.2 0)] M1)))) :
    JC x jtbM mX12_readTest (d + 1) [.ref (x.2.2.2 0), .int a1] M (jV P) := by
  refine JC.of rfl (Nat.le_of_ble_eq_true rfl) ?_
  refine jw_ls (ls' := [(0, .ref (x.2.2.2 0)), (1, .int a1)]) rfl ?_
  refine jw_aload_n (pc := 0) (j := 0) dX12_readTest_0 rfl rfl ?_
  refine jw_callV (pc := 1) (m2 := mX12_isCellWord) (As := []) (st := []) dX12_readTest_1 sM_0 (by decide) rfl rfl gm_X12_isCellWord ml_X12_205 rfl (Nat.le_of_ble_eq_true rfl) (JC.mono h ?_)
  clear h
  rintro M1 _ ⟨b1, rfl, h⟩
  refine jw_st (st' := [.int (jb b1)]) rfl ?_
  refine jw_if_eq (pc := 4) (tgt := 11) dX12_readTest_4 (by decide) (fun c => ?_) (fun c => ?_)
  · replace h := h.1 ((jb_0 _).mp c)
    refine jw_aload_n (pc := 11) (j := 0) dX12_readTest_11 rfl rfl ?_
    refine jw_callV (pc := 12) (m2 := mX12_isSees) (As := []) (st := []) dX12_readTest_12 sM_0 (by decide) rfl rfl gm_X12_isSees ml_X12_187 rfl (Nat.le_of_ble_eq_true rfl) (JC.mono h ?_)
    clear h
    rintro M2 _ ⟨b2, rfl, h⟩
    refine jw_st (st' := [.int (jb b2)]) rfl ?_
    refine jw_if_eq (pc := 15) (tgt := 22) dX12_readTest_15 (by decide) (fun c => ?_) (fun c => ?_)
    · replace h := h.1 ((jb_0 _).mp c)
      refine jw_aload_n (pc := 22) (j := 0) dX12_readTest_22 rfl rfl ?_
      refine jw_callV (pc := 23) (m2 := mX12_isSame) (As := []) (st := []) dX12_readTest_23 sM_0 (by decide) rfl rfl gm_X12_isSame ml_X12_211 rfl (Nat.le_of_ble_eq_true rfl) (JC.mono h ?_)
      clear h
      rintro M3 _ ⟨b3, rfl, h⟩
      refine jw_st (st' := [.int (jb b3)]) rfl ?_
      refine jw_if_eq (pc := 26) (tgt := 33) dX12_readTest_26 (by decide) (fun c => ?_) (fun c => ?_)
      · replace h := h.1 ((jb_0 _).mp c)
        refine jw_aload_n (pc := 33) (j := 0) dX12_readTest_33 rfl rfl ?_
        refine jw_callV (pc := 34) (m2 := mX12_isStone) (As := []) (st := []) dX12_readTest_34 sM_0 (by decide) rfl rfl gm_X12_isStone ml_X12_214 rfl (Nat.le_of_ble_eq_true rfl) (JC.mono h ?_)
        clear h
        rintro M4 _ ⟨b4, rfl, h⟩
        refine jw_st (st' := [.int (jb b4)]) rfl ?_
        refine jw_if_eq (pc := 37) (tgt := 44) dX12_readTest_37 (by decide) (fun c => ?_) (fun c => ?_)
        · replace h := h.1 ((jb_0 _).mp c)
          refine jw_iconst (pc := 44) (v := (-1)) dX12_readTest_44 rfl ?_
          refine jw_istore_n (pc := 45) (ls' := [(2, .int (-1 : Int32)), (0, .ref (x.2.2.2 0)), (1, .int a1)]) dX12_readTest_45 rfl (by decide) rfl ?_
          refine jw_aload_n (pc := 46) (j := 1) dX12_readTest_46 rfl rfl ?_
          refine jw_iload_n (pc := 47) (j := 0) dX12_readTest_47 rfl rfl ?_
          refine jw_if_lt (pc := 48) (tgt := 55) dX12_readTest_48 (by decide) (fun c => ?_) (fun c => ?_)
          · replace h := h.1 c
            refine jw_iconst (pc := 55) (v := 0) dX12_readTest_55 rfl ?_
            exact jw_sub [1, 2, 0] rfl h
          · replace h := h.2 c
            refine jw_iconst (pc := 51) (v := 1) dX12_readTest_51 rfl ?_
            refine jw_goto (pc := 52) (tgt := 56) dX12_readTest_52 (by decide) ?_
            exact jw_sub [1, 2, 0] rfl h
        · replace h := h.2 (jb_ne c)
          refine jw_iconst (pc := 40) (v := 3) dX12_readTest_40 rfl ?_
          refine jw_goto (pc := 41) (tgt := 45) dX12_readTest_41 (by decide) ?_
          refine jw_istore_n (pc := 45) (ls' := [(2, .int (3 : Int32)), (0, .ref (x.2.2.2 0)), (1, .int a1)]) dX12_readTest_45 rfl (by decide) rfl ?_
          refine jw_aload_n (pc := 46) (j := 1) dX12_readTest_46 rfl rfl ?_
          refine jw_iload_n (pc := 47) (j := 0) dX12_readTest_47 rfl rfl ?_
          refine jw_if_lt (pc := 48) (tgt := 55) dX12_readTest_48 (by decide) (fun c => ?_) (fun c => ?_)
          · replace h := h.1 c
            refine jw_iconst (pc := 55) (v := 0) dX12_readTest_55 rfl ?_
            exact jw_sub [1, 2, 0] rfl h
          · replace h := h.2 c
            refine jw_iconst (pc := 51) (v := 1) dX12_readTest_51 rfl ?_
            refine jw_goto (pc := 52) (tgt := 56) dX12_readTest_52 (by decide) ?_
            exact jw_sub [1, 2, 0] rfl h
      · replace h := h.2 (jb_ne c)
        refine jw_iconst (pc := 29) (v := 2) dX12_readTest_29 rfl ?_
        refine jw_goto (pc := 30) (tgt := 45) dX12_readTest_30 (by decide) ?_
        refine jw_istore_n (pc := 45) (ls' := [(2, .int (2 : Int32)), (0, .ref (x.2.2.2 0)), (1, .int a1)]) dX12_readTest_45 rfl (by decide) rfl ?_
        refine jw_aload_n (pc := 46) (j := 1) dX12_readTest_46 rfl rfl ?_
        refine jw_iload_n (pc := 47) (j := 0) dX12_readTest_47 rfl rfl ?_
        refine jw_if_lt (pc := 48) (tgt := 55) dX12_readTest_48 (by decide) (fun c => ?_) (fun c => ?_)
        · replace h := h.1 c
          refine jw_iconst (pc := 55) (v := 0) dX12_readTest_55 rfl ?_
          exact jw_sub [1, 2, 0] rfl h
        · replace h := h.2 c
          refine jw_iconst (pc := 51) (v := 1) dX12_readTest_51 rfl ?_
          refine jw_goto (pc := 52) (tgt := 56) dX12_readTest_52 (by decide) ?_
          exact jw_sub [1, 2, 0] rfl h
    · replace h := h.2 (jb_ne c)
      refine jw_iconst (pc := 18) (v := 1) dX12_readTest_18 rfl ?_
      refine jw_goto (pc := 19) (tgt := 45) dX12_readTest_19 (by decide) ?_
      refine jw_istore_n (pc := 45) (ls' := [(2, .int (1 : Int32)), (0, .ref (x.2.2.2 0)), (1, .int a1)]) dX12_readTest_45 rfl (by decide) rfl ?_
      refine jw_aload_n (pc := 46) (j := 1) dX12_readTest_46 rfl rfl ?_
      refine jw_iload_n (pc := 47) (j := 0) dX12_readTest_47 rfl rfl ?_
      refine jw_if_lt (pc := 48) (tgt := 55) dX12_readTest_48 (by decide) (fun c => ?_) (fun c => ?_)
      · replace h := h.1 c
        refine jw_iconst (pc := 55) (v := 0) dX12_readTest_55 rfl ?_
        exact jw_sub [1, 2, 0] rfl h
      · replace h := h.2 c
        refine jw_iconst (pc := 51) (v := 1) dX12_readTest_51 rfl ?_
        refine jw_goto (pc := 52) (tgt := 56) dX12_readTest_52 (by decide) ?_
        exact jw_sub [1, 2, 0] rfl h
  · replace h := h.2 (jb_ne c)
    refine jw_iconst (pc := 7) (v := 0) dX12_readTest_7 rfl ?_
    refine jw_goto (pc := 8) (tgt := 45) dX12_readTest_8 (by decide) ?_
    refine jw_istore_n (pc := 45) (ls' := [(2, .int (0 : Int32)), (0, .ref (x.2.2.2 0)), (1, .int a1)]) dX12_readTest_45 rfl (by decide) rfl ?_
    refine jw_aload_n (pc := 46) (j := 1) dX12_readTest_46 rfl rfl ?_
    refine jw_iload_n (pc := 47) (j := 0) dX12_readTest_47 rfl rfl ?_
    refine jw_if_lt (pc := 48) (tgt := 55) dX12_readTest_48 (by decide) (fun c => ?_) (fun c => ?_)
    · replace h := h.1 c
      refine jw_iconst (pc := 55) (v := 0) dX12_readTest_55 rfl ?_
      exact jw_sub [1, 2, 0] rfl h
    · replace h := h.2 c
      refine jw_iconst (pc := 51) (v := 1) dX12_readTest_51 rfl ?_
      refine jw_goto (pc := 52) (tgt := 56) dX12_readTest_52 (by decide) ?_
      exact jw_sub [1, 2, 0] rfl h
set_option maxRecDepth 20000 in
theorem b_X12_readTest_56 {x : jX} {d : Nat} {M : jM} {P : jM → Prop} {l1 : Int32} {l2 : Int32} {k0 : Int32} 
    (h : JC x jtbM mX12_must d [.ref (x.2.2.2 0), .int k0] M (jV fun M1 => ∃ j1, j1 < 2060 ∧ l1 + (4 : Int32) = nI j1 ∧ (∀ M2, M2 = jrI M1 5 (upd (M1.1 5) j1 l2) → (¬ l2 = 0 → (¬ l2 = (1 : Int32) → (¬ l2 = (2 : Int32) → (¬ l2 = (3 : Int32) → P M2) ∧ (l2 = (3 : Int32) → JC x jtbM mX12_readSign d [.ref (x.2.2.2 0), .int l1, .int (9999 : Int32)] M2 (jV fun M3 => P M3))) ∧ (l2 = (2 : Int32) → JC x jtbM mX12_readName d [.ref (x.2.2.2 0)] M2 (jI fun M4 r1 => ∃ j2, j2 < 2060 ∧ l1 + (1 : Int32) = nI j2 ∧ (∀ M5, M5 = jrI M4 5 (upd (M4.1 5) j2 r1) → P M5)))) ∧ (l2 = (1 : Int32) → JC x jtbM mX12_readName d [.ref (x.2.2.2 0)] M2 (jI fun M6 r2 => ∃ j3, j3 < 2060 ∧ l1 + (1 : Int32) = nI j3 ∧ (∀ M7, M7 = jrI M6 5 (upd (M6.1 5) j3 r2) → JC x jtbM mX12_isAt d [.ref (x.2.2.2 0)] M7 (jZ fun M8 b1 => JC x jtbM mX12_must d [.ref (x.2.2.2 0), .int (jb b1)] M8 (jV fun M9 => JC x jtbM mX12_count d [.ref (x.2.2.2 0), .int (0 : Int32), .int (8 : Int32)] M9 (jI fun M10 r3 => ∃ j4, j4 < 2060 ∧ l1 + (2 : Int32) = nI j4 ∧ (∀ M11, M11 = jrI M10 5 (upd (M10.1 5) j4 r3) → JC x jtbM mX12_readSign d [.ref (x.2.2.2 0), .int l1, .int (99 : Int32)] M11 (jV fun M12 => P M12))))))))) ∧ (l2 = 0 → JC x jtbM mX12_count d [.ref (x.2.2.2 0), .int (0 : Int32), .int ((M2.1 5 0) - (1 : Int32))] M2 (jI fun M13 r4 => ∃ j5, j5 < 2060 ∧ l1 + (1 : Int32) = nI j5 ∧ (∀ M14, M14 = jrI M13 5 (upd (M13.1 5) j5 r4) → JC x jtbM mX12_count d [.ref (x.2.2.2 0), .int (0 : Int32), .int ((M14.1 5 1) - (1 : Int32))] M14 (jI fun M15 r5 => ∃ j6, j6 < 2060 ∧ l1 + (2 : Int32) = nI j6 ∧ (∀ M16, M16 = jrI M15 5 (upd (M15.1 5) j6 r5) → JC x jtbM mX12_readSign d [.ref (x.2.2.2 0), .int l1, .int (99 : Int32)] M16 (jV fun M17 => P M17))))))))) :
    JW x jtbM mX12_readTest (d + 1) (jV P) 56 [(0, .ref (x.2.2.2 0)), (1, .int l1), (2, .int l2)] [.int k0, .ref (x.2.2.2 0)] M := by
  refine jw_callV (pc := 56) (m2 := mX12_must) (As := [.int k0]) (st := []) dX12_readTest_56 sM_0 (by decide) rfl rfl gm_X12_must ml_X12_265 rfl (Nat.le_of_ble_eq_true rfl) (JC.mono h ?_)
  clear h
  rintro M1 _ ⟨rfl, h⟩
  refine jw_st (st' := []) rfl ?_
  refine jw_aload_n (pc := 59) (j := 0) dX12_readTest_59 rfl rfl ?_
  refine jw_getR (pc := 60) (r := 5) dX12_readTest_60 sM_0 fl_X12_35 (by decide) rfl rfl ?_
  refine jw_iload_n (pc := 63) (j := 1) dX12_readTest_63 rfl rfl ?_
  refine jw_iconst (pc := 64) (v := 4) dX12_readTest_64 rfl ?_
  refine jw_iadd (pc := 65) dX12_readTest_65 ?_
  refine jw_iload_n (pc := 66) (j := 2) dX12_readTest_66 rfl rfl ?_
  obtain ⟨j1, hj1, ej1, h⟩ := h
  refine jw_iast (pc := 67) (j := j1) dX12_readTest_67 sM_5 hj1 ej1 (by decide) ?_
  replace h := h _ rfl
  generalize jrI M1 5 (upd (M1.1 5) j1 l2) = M2 at h ⊢
  refine jw_iload_n (pc := 68) (j := 2) dX12_readTest_68 rfl rfl ?_
  refine jw_if_ne (pc := 69) (tgt := 124) dX12_readTest_69 (by decide) (fun c => ?_) (fun c => ?_)
  · replace h := h.1 c
    refine jw_iload_n (pc := 124) (j := 2) dX12_readTest_124 rfl rfl ?_
    refine jw_iconst (pc := 125) (v := 1) dX12_readTest_125 rfl ?_
    refine jw_icmp_ne (pc := 126) (tgt := 174) dX12_readTest_126 (by decide) (fun c => ?_) (fun c => ?_)
    · replace h := h.1 c
      refine jw_iload_n (pc := 174) (j := 2) dX12_readTest_174 rfl rfl ?_
      refine jw_iconst (pc := 175) (v := 2) dX12_readTest_175 rfl ?_
      refine jw_icmp_ne (pc := 176) (tgt := 194) dX12_readTest_176 (by decide) (fun c => ?_) (fun c => ?_)
      · replace h := h.1 c
        refine jw_iload_n (pc := 194) (j := 2) dX12_readTest_194 rfl rfl ?_
        refine jw_iconst (pc := 195) (v := 3) dX12_readTest_195 rfl ?_
        refine jw_icmp_ne (pc := 196) (tgt := 207) dX12_readTest_196 (by decide) (fun c => ?_) (fun c => ?_)
        · replace h := h.1 c
          exact jw_vret (pc := 207) dX12_readTest_207 rfl ⟨rfl, h⟩
        · replace h := h.2 c
          refine jw_aload_n (pc := 199) (j := 0) dX12_readTest_199 rfl rfl ?_
          refine jw_iload_n (pc := 200) (j := 1) dX12_readTest_200 rfl rfl ?_
          refine jw_sipush (pc := 201) (v := 9999) dX12_readTest_201 rfl ?_
          refine jw_callV (pc := 204) (m2 := mX12_readSign) (As := [.int l1, .int (9999 : Int32)]) (st := []) dX12_readTest_204 sM_0 (by decide) rfl rfl gm_X12_readSign ml_X12_442 rfl (Nat.le_of_ble_eq_true rfl) (JC.mono h ?_)
          clear h
          rintro M3 _ ⟨rfl, h⟩
          refine jw_st (st' := []) rfl ?_
          exact jw_vret (pc := 207) dX12_readTest_207 rfl ⟨rfl, h⟩
      · replace h := h.2 c
        refine jw_aload_n (pc := 179) (j := 0) dX12_readTest_179 rfl rfl ?_
        refine jw_getR (pc := 180) (r := 5) dX12_readTest_180 sM_0 fl_X12_35 (by decide) rfl rfl ?_
        refine jw_iload_n (pc := 183) (j := 1) dX12_readTest_183 rfl rfl ?_
        refine jw_iconst (pc := 184) (v := 1) dX12_readTest_184 rfl ?_
        refine jw_iadd (pc := 185) dX12_readTest_185 ?_
        refine jw_aload_n (pc := 186) (j := 0) dX12_readTest_186 rfl rfl ?_
        refine jw_callV (pc := 187) (m2 := mX12_readName) (As := []) (st := [.int (l1 + (1 : Int32)), .ref (x.2.2.2 5)]) dX12_readTest_187 sM_0 (by decide) rfl rfl gm_X12_readName ml_X12_445 rfl (Nat.le_of_ble_eq_true rfl) (JC.mono h ?_)
        clear h
        rintro M4 _ ⟨r1, rfl, h⟩
        refine jw_st (st' := [.int r1, .int (l1 + (1 : Int32)), .ref (x.2.2.2 5)]) rfl ?_
        obtain ⟨j2, hj2, ej2, h⟩ := h
        refine jw_iast (pc := 190) (j := j2) dX12_readTest_190 sM_5 hj2 ej2 (by decide) ?_
        replace h := h _ rfl
        generalize jrI M4 5 (upd (M4.1 5) j2 r1) = M5 at h ⊢
        refine jw_goto (pc := 191) (tgt := 207) dX12_readTest_191 (by decide) ?_
        exact jw_vret (pc := 207) dX12_readTest_207 rfl ⟨rfl, h⟩
    · replace h := h.2 c
      refine jw_aload_n (pc := 129) (j := 0) dX12_readTest_129 rfl rfl ?_
      refine jw_getR (pc := 130) (r := 5) dX12_readTest_130 sM_0 fl_X12_35 (by decide) rfl rfl ?_
      refine jw_iload_n (pc := 133) (j := 1) dX12_readTest_133 rfl rfl ?_
      refine jw_iconst (pc := 134) (v := 1) dX12_readTest_134 rfl ?_
      refine jw_iadd (pc := 135) dX12_readTest_135 ?_
      refine jw_aload_n (pc := 136) (j := 0) dX12_readTest_136 rfl rfl ?_
      refine jw_callV (pc := 137) (m2 := mX12_readName) (As := []) (st := [.int (l1 + (1 : Int32)), .ref (x.2.2.2 5)]) dX12_readTest_137 sM_0 (by decide) rfl rfl gm_X12_readName ml_X12_445 rfl (Nat.le_of_ble_eq_true rfl) (JC.mono h ?_)
      clear h
      rintro M6 _ ⟨r2, rfl, h⟩
      refine jw_st (st' := [.int r2, .int (l1 + (1 : Int32)), .ref (x.2.2.2 5)]) rfl ?_
      obtain ⟨j3, hj3, ej3, h⟩ := h
      refine jw_iast (pc := 140) (j := j3) dX12_readTest_140 sM_5 hj3 ej3 (by decide) ?_
      replace h := h _ rfl
      generalize jrI M6 5 (upd (M6.1 5) j3 r2) = M7 at h ⊢
      refine jw_aload_n (pc := 141) (j := 0) dX12_readTest_141 rfl rfl ?_
      refine jw_aload_n (pc := 142) (j := 0) dX12_readTest_142 rfl rfl ?_
      refine jw_callV (pc := 143) (m2 := mX12_isAt) (As := []) (st := [.ref (x.2.2.2 0)]) dX12_readTest_143 sM_0 (by decide) rfl rfl gm_X12_isAt ml_X12_208 rfl (Nat.le_of_ble_eq_true rfl) (JC.mono h ?_)
      clear h
      rintro M8 _ ⟨b1, rfl, h⟩
      refine jw_st (st' := [.int (jb b1), .ref (x.2.2.2 0)]) rfl ?_
      refine jw_callV (pc := 146) (m2 := mX12_must) (As := [.int (jb b1)]) (st := []) dX12_readTest_146 sM_0 (by decide) rfl rfl gm_X12_must ml_X12_265 rfl (Nat.le_of_ble_eq_true rfl) (JC.mono h ?_)
      clear h
      rintro M9 _ ⟨rfl, h⟩
      refine jw_st (st' := []) rfl ?_
      refine jw_aload_n (pc := 149) (j := 0) dX12_readTest_149 rfl rfl ?_
      refine jw_getR (pc := 150) (r := 5) dX12_readTest_150 sM_0 fl_X12_35 (by decide) rfl rfl ?_
      refine jw_iload_n (pc := 153) (j := 1) dX12_readTest_153 rfl rfl ?_
      refine jw_iconst (pc := 154) (v := 2) dX12_readTest_154 rfl ?_
      refine jw_iadd (pc := 155) dX12_readTest_155 ?_
      refine jw_aload_n (pc := 156) (j := 0) dX12_readTest_156 rfl rfl ?_
      refine jw_iconst (pc := 157) (v := 0) dX12_readTest_157 rfl ?_
      refine jw_bipush (pc := 158) (v := 8) dX12_readTest_158 rfl ?_
      refine jw_callV (pc := 160) (m2 := mX12_count) (As := [.int (0 : Int32), .int (8 : Int32)]) (st := [.int (l1 + (2 : Int32)), .ref (x.2.2.2 5)]) dX12_readTest_160 sM_0 (by decide) rfl rfl gm_X12_count ml_X12_292 rfl (Nat.le_of_ble_eq_true rfl) (JC.mono h ?_)
      clear h
      rintro M10 _ ⟨r3, rfl, h⟩
      refine jw_st (st' := [.int r3, .int (l1 + (2 : Int32)), .ref (x.2.2.2 5)]) rfl ?_
      obtain ⟨j4, hj4, ej4, h⟩ := h
      refine jw_iast (pc := 163) (j := j4) dX12_readTest_163 sM_5 hj4 ej4 (by decide) ?_
      replace h := h _ rfl
      generalize jrI M10 5 (upd (M10.1 5) j4 r3) = M11 at h ⊢
      refine jw_aload_n (pc := 164) (j := 0) dX12_readTest_164 rfl rfl ?_
      refine jw_iload_n (pc := 165) (j := 1) dX12_readTest_165 rfl rfl ?_
      refine jw_bipush (pc := 166) (v := 99) dX12_readTest_166 rfl ?_
      refine jw_callV (pc := 168) (m2 := mX12_readSign) (As := [.int l1, .int (99 : Int32)]) (st := []) dX12_readTest_168 sM_0 (by decide) rfl rfl gm_X12_readSign ml_X12_442 rfl (Nat.le_of_ble_eq_true rfl) (JC.mono h ?_)
      clear h
      rintro M12 _ ⟨rfl, h⟩
      refine jw_st (st' := []) rfl ?_
      refine jw_goto (pc := 171) (tgt := 207) dX12_readTest_171 (by decide) ?_
      exact jw_vret (pc := 207) dX12_readTest_207 rfl ⟨rfl, h⟩
  · replace h := h.2 c
    refine jw_aload_n (pc := 72) (j := 0) dX12_readTest_72 rfl rfl ?_
    refine jw_getR (pc := 73) (r := 5) dX12_readTest_73 sM_0 fl_X12_35 (by decide) rfl rfl ?_
    refine jw_iload_n (pc := 76) (j := 1) dX12_readTest_76 rfl rfl ?_
    refine jw_iconst (pc := 77) (v := 1) dX12_readTest_77 rfl ?_
    refine jw_iadd (pc := 78) dX12_readTest_78 ?_
    refine jw_aload_n (pc := 79) (j := 0) dX12_readTest_79 rfl rfl ?_
    refine jw_iconst (pc := 80) (v := 0) dX12_readTest_80 rfl ?_
    refine jw_aload_n (pc := 81) (j := 0) dX12_readTest_81 rfl rfl ?_
    refine jw_getR (pc := 82) (r := 5) dX12_readTest_82 sM_0 fl_X12_35 (by decide) rfl rfl ?_
    refine jw_iconst (pc := 85) (v := 0) dX12_readTest_85 rfl ?_
    refine jw_iald (pc := 86) (j := 0) dX12_readTest_86 sM_5 (by decide) rfl (by decide) ?_
    refine jw_iconst (pc := 87) (v := 1) dX12_readTest_87 rfl ?_
    refine jw_isub (pc := 88) dX12_readTest_88 ?_
    refine jw_callV (pc := 89) (m2 := mX12_count) (As := [.int (0 : Int32), .int ((M2.1 5 0) - (1 : Int32))]) (st := [.int (l1 + (1 : Int32)), .ref (x.2.2.2 5)]) dX12_readTest_89 sM_0 (by decide) rfl rfl gm_X12_count ml_X12_292 rfl (Nat.le_of_ble_eq_true rfl) (JC.mono h ?_)
    clear h
    rintro M13 _ ⟨r4, rfl, h⟩
    refine jw_st (st' := [.int r4, .int (l1 + (1 : Int32)), .ref (x.2.2.2 5)]) rfl ?_
    obtain ⟨j5, hj5, ej5, h⟩ := h
    refine jw_iast (pc := 92) (j := j5) dX12_readTest_92 sM_5 hj5 ej5 (by decide) ?_
    replace h := h _ rfl
    generalize jrI M13 5 (upd (M13.1 5) j5 r4) = M14 at h ⊢
    refine jw_aload_n (pc := 93) (j := 0) dX12_readTest_93 rfl rfl ?_
    refine jw_getR (pc := 94) (r := 5) dX12_readTest_94 sM_0 fl_X12_35 (by decide) rfl rfl ?_
    refine jw_iload_n (pc := 97) (j := 1) dX12_readTest_97 rfl rfl ?_
    refine jw_iconst (pc := 98) (v := 2) dX12_readTest_98 rfl ?_
    refine jw_iadd (pc := 99) dX12_readTest_99 ?_
    refine jw_aload_n (pc := 100) (j := 0) dX12_readTest_100 rfl rfl ?_
    refine jw_iconst (pc := 101) (v := 0) dX12_readTest_101 rfl ?_
    refine jw_aload_n (pc := 102) (j := 0) dX12_readTest_102 rfl rfl ?_
    refine jw_getR (pc := 103) (r := 5) dX12_readTest_103 sM_0 fl_X12_35 (by decide) rfl rfl ?_
    refine jw_iconst (pc := 106) (v := 1) dX12_readTest_106 rfl ?_
    refine jw_iald (pc := 107) (j := 1) dX12_readTest_107 sM_5 (by decide) rfl (by decide) ?_
    refine jw_iconst (pc := 108) (v := 1) dX12_readTest_108 rfl ?_
    refine jw_isub (pc := 109) dX12_readTest_109 ?_
    refine jw_callV (pc := 110) (m2 := mX12_count) (As := [.int (0 : Int32), .int ((M14.1 5 1) - (1 : Int32))]) (st := [.int (l1 + (2 : Int32)), .ref (x.2.2.2 5)]) dX12_readTest_110 sM_0 (by decide) rfl rfl gm_X12_count ml_X12_292 rfl (Nat.le_of_ble_eq_true rfl) (JC.mono h ?_)
    clear h
    rintro M15 _ ⟨r5, rfl, h⟩
    refine jw_st (st' := [.int r5, .int (l1 + (2 : Int32)), .ref (x.2.2.2 5)]) rfl ?_
    obtain ⟨j6, hj6, ej6, h⟩ := h
    refine jw_iast (pc := 113) (j := j6) dX12_readTest_113 sM_5 hj6 ej6 (by decide) ?_
    replace h := h _ rfl
    generalize jrI M15 5 (upd (M15.1 5) j6 r5) = M16 at h ⊢
    refine jw_aload_n (pc := 114) (j := 0) dX12_readTest_114 rfl rfl ?_
    refine jw_iload_n (pc := 115) (j := 1) dX12_readTest_115 rfl rfl ?_
    refine jw_bipush (pc := 116) (v := 99) dX12_readTest_116 rfl ?_
    refine jw_callV (pc := 118) (m2 := mX12_readSign) (As := [.int l1, .int (99 : Int32)]) (st := []) dX12_readTest_118 sM_0 (by decide) rfl rfl gm_X12_readSign ml_X12_442 rfl (Nat.le_of_ble_eq_true rfl) (JC.mono h ?_)
    clear h
    rintro M17 _ ⟨rfl, h⟩
    refine jw_st (st' := []) rfl ?_
    refine jw_goto (pc := 121) (tgt := 207) dX12_readTest_121 (by decide) ?_
    exact jw_vret (pc := 207) dX12_readTest_207 rfl ⟨rfl, h⟩
set_option maxRecDepth 20000 in
theorem b_X12_readRest {x : jX} {d : Nat} {M : jM} {P : jM → Prop} {a1 : Int32} 
    (h : ∃ j1, j1 < 2060 ∧ a1 = nI j1 ∧ (((M.1 5 j1) = 0 → JW x jtbM mX12_readRest (d + 1) (jV P) 16 [(0, .ref (x.2.2.2 0)), (1, .int a1)] [] M) ∧ (¬ (M.1 5 j1) = 0 → (¬ (M.1 5 j1) = (1 : Int32) → ((M.1 5 j1) = (2 : Int32) → JW x jtbM mX12_readRest (d + 1) (jV P) 113 [(0, .ref (x.2.2.2 0)), (1, .int a1)] [] M) ∧ (¬ (M.1 5 j1) = (2 : Int32) → (¬ (M.1 5 j1) = (4 : Int32) → (¬ (M.1 5 j1) = (3 : Int32) → P M) ∧ ((M.1 5 j1) = (3 : Int32) → JC x jtbM mX12_readTest d [.ref (x.2.2.2 0), .int a1] M (jV fun M1 => P M1))) ∧ ((M.1 5 j1) = (4 : Int32) → JW x jtbM mX12_readRest (d + 1) (jV P) 113 [(0, .ref (x.2.2.2 0)), (1, .int a1)] [] M))) ∧ ((M.1 5 j1) = (1 : Int32) → JW x jtbM mX12_readRest (d + 1) (jV P) 16 [(0, .ref (x.2.2.2 0)), (1, .int a1)] [] M)))) :
    JC x jtbM mX12_readRest (d + 1) [.ref (x.2.2.2 0), .int a1] M (jV P) := by
  refine JC.of rfl (Nat.le_of_ble_eq_true rfl) ?_
  refine jw_ls (ls' := [(0, .ref (x.2.2.2 0)), (1, .int a1)]) rfl ?_
  refine jw_aload_n (pc := 0) (j := 0) dX12_readRest_0 rfl rfl ?_
  refine jw_getR (pc := 1) (r := 5) dX12_readRest_1 sM_0 fl_X12_35 (by decide) rfl rfl ?_
  refine jw_iload_n (pc := 4) (j := 1) dX12_readRest_4 rfl rfl ?_
  obtain ⟨j1, hj1, ej1, h⟩ := h
  refine jw_iald (pc := 5) (j := j1) dX12_readRest_5 sM_5 hj1 ej1 (by decide) ?_
  refine jw_istore_n (pc := 6) (ls' := [(2, .int (M.1 5 j1)), (0, .ref (x.2.2.2 0)), (1, .int a1)]) dX12_readRest_6 rfl (by decide) rfl ?_
  refine jw_iload_n (pc := 7) (j := 0) dX12_readRest_7 rfl rfl ?_
  refine jw_if_eq (pc := 8) (tgt := 16) dX12_readRest_8 (by decide) (fun c => ?_) (fun c => ?_)
  · replace h := h.1 c
    exact jw_sub [1, 2] rfl h
  · replace h := h.2 c
    refine jw_iload_n (pc := 11) (j := 0) dX12_readRest_11 rfl rfl ?_
    refine jw_iconst (pc := 12) (v := 1) dX12_readRest_12 rfl ?_
    refine jw_icmp_ne (pc := 13) (tgt := 103) dX12_readRest_13 (by decide) (fun c => ?_) (fun c => ?_)
    · replace h := h.1 c
      refine jw_iload_n (pc := 103) (j := 0) dX12_readRest_103 rfl rfl ?_
      refine jw_iconst (pc := 104) (v := 2) dX12_readRest_104 rfl ?_
      refine jw_icmp_eq (pc := 105) (tgt := 113) dX12_readRest_105 (by decide) (fun c => ?_) (fun c => ?_)
      · replace h := h.1 c
        exact jw_sub [1, 2] rfl h
      · replace h := h.2 c
        refine jw_iload_n (pc := 108) (j := 0) dX12_readRest_108 rfl rfl ?_
        refine jw_iconst (pc := 109) (v := 4) dX12_readRest_109 rfl ?_
        refine jw_icmp_ne (pc := 110) (tgt := 131) dX12_readRest_110 (by decide) (fun c => ?_) (fun c => ?_)
        · replace h := h.1 c
          refine jw_iload_n (pc := 131) (j := 0) dX12_readRest_131 rfl rfl ?_
          refine jw_iconst (pc := 132) (v := 3) dX12_readRest_132 rfl ?_
          refine jw_icmp_ne (pc := 133) (tgt := 141) dX12_readRest_133 (by decide) (fun c => ?_) (fun c => ?_)
          · replace h := h.1 c
            exact jw_vret (pc := 141) dX12_readRest_141 rfl ⟨rfl, h⟩
          · replace h := h.2 c
            refine jw_aload_n (pc := 136) (j := 1) dX12_readRest_136 rfl rfl ?_
            refine jw_iload_n (pc := 137) (j := 2) dX12_readRest_137 rfl rfl ?_
            refine jw_callV (pc := 138) (m2 := mX12_readTest) (As := [.int a1]) (st := []) dX12_readRest_138 sM_0 (by decide) rfl rfl gm_X12_readTest ml_X12_448 rfl (Nat.le_of_ble_eq_true rfl) (JC.mono h ?_)
            clear h
            rintro M1 _ ⟨rfl, h⟩
            refine jw_st (st' := []) rfl ?_
            exact jw_vret (pc := 141) dX12_readRest_141 rfl ⟨rfl, h⟩
        · replace h := h.2 c
          exact jw_sub [1, 2] rfl h
    · replace h := h.2 c
      exact jw_sub [1, 2] rfl h
set_option maxRecDepth 20000 in
theorem b_X12_readRest_16 {x : jX} {d : Nat} {M : jM} {P : jM → Prop} {l1 : Int32} 
    (h : JC x jtbM mX12_count d [.ref (x.2.2.2 0), .int (0 : Int32), .int ((M.1 5 0) - (1 : Int32))] M (jI fun M1 r1 => ∃ j1, j1 < 2060 ∧ l1 + (1 : Int32) = nI j1 ∧ (∀ M2, M2 = jrI M1 5 (upd (M1.1 5) j1 r1) → JC x jtbM mX12_count d [.ref (x.2.2.2 0), .int (0 : Int32), .int ((M2.1 5 1) - (1 : Int32))] M2 (jI fun M3 r2 => ∃ j2, j2 < 2060 ∧ l1 + (2 : Int32) = nI j2 ∧ (∀ M4, M4 = jrI M3 5 (upd (M3.1 5) j2 r2) → ∃ j3, j3 < 2060 ∧ l1 + (3 : Int32) = nI j3 ∧ (∀ M5, M5 = jrI M4 5 (upd (M4.1 5) j3 (1 : Int32)) → (¬ (M5.1 0 12) = 0 → P M5) ∧ ((M5.1 0 12) = 0 → JC x jtbM mX12_isBy d [.ref (x.2.2.2 0)] M5 (jZ fun M6 b1 => (b1 = false → P M6) ∧ (b1 = true → JC x jtbM mX12_next d [.ref (x.2.2.2 0)] M6 (jV fun M7 => JC x jtbM mX12_count d [.ref (x.2.2.2 0), .int (1 : Int32), .int (99 : Int32)] M7 (jI fun M8 r3 => ∀ M9, M9 = jrI M8 5 (upd (M8.1 5) j3 r3) → P M9))))))))))) :
    JW x jtbM mX12_readRest (d + 1) (jV P) 16 [(0, .ref (x.2.2.2 0)), (1, .int l1)] [] M := by
  refine jw_aload_n (pc := 16) (j := 0) dX12_readRest_16 rfl rfl ?_
  refine jw_getR (pc := 17) (r := 5) dX12_readRest_17 sM_0 fl_X12_35 (by decide) rfl rfl ?_
  refine jw_iload_n (pc := 20) (j := 1) dX12_readRest_20 rfl rfl ?_
  refine jw_iconst (pc := 21) (v := 1) dX12_readRest_21 rfl ?_
  refine jw_iadd (pc := 22) dX12_readRest_22 ?_
  refine jw_aload_n (pc := 23) (j := 0) dX12_readRest_23 rfl rfl ?_
  refine jw_iconst (pc := 24) (v := 0) dX12_readRest_24 rfl ?_
  refine jw_aload_n (pc := 25) (j := 0) dX12_readRest_25 rfl rfl ?_
  refine jw_getR (pc := 26) (r := 5) dX12_readRest_26 sM_0 fl_X12_35 (by decide) rfl rfl ?_
  refine jw_iconst (pc := 29) (v := 0) dX12_readRest_29 rfl ?_
  refine jw_iald (pc := 30) (j := 0) dX12_readRest_30 sM_5 (by decide) rfl (by decide) ?_
  refine jw_iconst (pc := 31) (v := 1) dX12_readRest_31 rfl ?_
  refine jw_isub (pc := 32) dX12_readRest_32 ?_
  refine jw_callV (pc := 33) (m2 := mX12_count) (As := [.int (0 : Int32), .int ((M.1 5 0) - (1 : Int32))]) (st := [.int (l1 + (1 : Int32)), .ref (x.2.2.2 5)]) dX12_readRest_33 sM_0 (by decide) rfl rfl gm_X12_count ml_X12_292 rfl (Nat.le_of_ble_eq_true rfl) (JC.mono h ?_)
  clear h
  rintro M1 _ ⟨r1, rfl, h⟩
  refine jw_st (st' := [.int r1, .int (l1 + (1 : Int32)), .ref (x.2.2.2 5)]) rfl ?_
  obtain ⟨j1, hj1, ej1, h⟩ := h
  refine jw_iast (pc := 36) (j := j1) dX12_readRest_36 sM_5 hj1 ej1 (by decide) ?_
  replace h := h _ rfl
  generalize jrI M1 5 (upd (M1.1 5) j1 r1) = M2 at h ⊢
  refine jw_aload_n (pc := 37) (j := 0) dX12_readRest_37 rfl rfl ?_
  refine jw_getR (pc := 38) (r := 5) dX12_readRest_38 sM_0 fl_X12_35 (by decide) rfl rfl ?_
  refine jw_iload_n (pc := 41) (j := 1) dX12_readRest_41 rfl rfl ?_
  refine jw_iconst (pc := 42) (v := 2) dX12_readRest_42 rfl ?_
  refine jw_iadd (pc := 43) dX12_readRest_43 ?_
  refine jw_aload_n (pc := 44) (j := 0) dX12_readRest_44 rfl rfl ?_
  refine jw_iconst (pc := 45) (v := 0) dX12_readRest_45 rfl ?_
  refine jw_aload_n (pc := 46) (j := 0) dX12_readRest_46 rfl rfl ?_
  refine jw_getR (pc := 47) (r := 5) dX12_readRest_47 sM_0 fl_X12_35 (by decide) rfl rfl ?_
  refine jw_iconst (pc := 50) (v := 1) dX12_readRest_50 rfl ?_
  refine jw_iald (pc := 51) (j := 1) dX12_readRest_51 sM_5 (by decide) rfl (by decide) ?_
  refine jw_iconst (pc := 52) (v := 1) dX12_readRest_52 rfl ?_
  refine jw_isub (pc := 53) dX12_readRest_53 ?_
  refine jw_callV (pc := 54) (m2 := mX12_count) (As := [.int (0 : Int32), .int ((M2.1 5 1) - (1 : Int32))]) (st := [.int (l1 + (2 : Int32)), .ref (x.2.2.2 5)]) dX12_readRest_54 sM_0 (by decide) rfl rfl gm_X12_count ml_X12_292 rfl (Nat.le_of_ble_eq_true rfl) (JC.mono h ?_)
  clear h
  rintro M3 _ ⟨r2, rfl, h⟩
  refine jw_st (st' := [.int r2, .int (l1 + (2 : Int32)), .ref (x.2.2.2 5)]) rfl ?_
  obtain ⟨j2, hj2, ej2, h⟩ := h
  refine jw_iast (pc := 57) (j := j2) dX12_readRest_57 sM_5 hj2 ej2 (by decide) ?_
  replace h := h _ rfl
  generalize jrI M3 5 (upd (M3.1 5) j2 r2) = M4 at h ⊢
  refine jw_aload_n (pc := 58) (j := 0) dX12_readRest_58 rfl rfl ?_
  refine jw_getR (pc := 59) (r := 5) dX12_readRest_59 sM_0 fl_X12_35 (by decide) rfl rfl ?_
  refine jw_iload_n (pc := 62) (j := 1) dX12_readRest_62 rfl rfl ?_
  refine jw_iconst (pc := 63) (v := 3) dX12_readRest_63 rfl ?_
  refine jw_iadd (pc := 64) dX12_readRest_64 ?_
  refine jw_iconst (pc := 65) (v := 1) dX12_readRest_65 rfl ?_
  obtain ⟨j3, hj3, ej3, h⟩ := h
  refine jw_iast (pc := 66) (j := j3) dX12_readRest_66 sM_5 hj3 ej3 (by decide) ?_
  replace h := h _ rfl
  generalize jrI M4 5 (upd (M4.1 5) j3 (1 : Int32)) = M5 at h ⊢
  refine jw_aload_n (pc := 67) (j := 0) dX12_readRest_67 rfl rfl ?_
  refine jw_getI (pc := 68) dX12_readRest_68 sM_0 fl_X12_229 (by decide) rfl ?_
  refine jw_if_ne (pc := 71) (tgt := 141) dX12_readRest_71 (by decide) (fun c => ?_) (fun c => ?_)
  · replace h := h.1 c
    exact jw_vret (pc := 141) dX12_readRest_141 rfl ⟨rfl, h⟩
  · replace h := h.2 c
    refine jw_aload_n (pc := 74) (j := 0) dX12_readRest_74 rfl rfl ?_
    refine jw_callV (pc := 75) (m2 := mX12_isBy) (As := []) (st := []) dX12_readRest_75 sM_0 (by decide) rfl rfl gm_X12_isBy ml_X12_196 rfl (Nat.le_of_ble_eq_true rfl) (JC.mono h ?_)
    clear h
    rintro M6 _ ⟨b1, rfl, h⟩
    refine jw_st (st' := [.int (jb b1)]) rfl ?_
    refine jw_if_eq (pc := 78) (tgt := 141) dX12_readRest_78 (by decide) (fun c => ?_) (fun c => ?_)
    · replace h := h.1 ((jb_0 _).mp c)
      exact jw_vret (pc := 141) dX12_readRest_141 rfl ⟨rfl, h⟩
    · replace h := h.2 (jb_ne c)
      refine jw_aload_n (pc := 81) (j := 0) dX12_readRest_81 rfl rfl ?_
      refine jw_callV (pc := 82) (m2 := mX12_next) (As := []) (st := []) dX12_readRest_82 sM_0 (by decide) rfl rfl gm_X12_next ml_X12_239 rfl (Nat.le_of_ble_eq_true rfl) (JC.mono h ?_)
      clear h
      rintro M7 _ ⟨rfl, h⟩
      refine jw_st (st' := []) rfl ?_
      refine jw_aload_n (pc := 85) (j := 0) dX12_readRest_85 rfl rfl ?_
      refine jw_getR (pc := 86) (r := 5) dX12_readRest_86 sM_0 fl_X12_35 (by decide) rfl rfl ?_
      refine jw_iload_n (pc := 89) (j := 1) dX12_readRest_89 rfl rfl ?_
      refine jw_iconst (pc := 90) (v := 3) dX12_readRest_90 rfl ?_
      refine jw_iadd (pc := 91) dX12_readRest_91 ?_
      refine jw_aload_n (pc := 92) (j := 0) dX12_readRest_92 rfl rfl ?_
      refine jw_iconst (pc := 93) (v := 1) dX12_readRest_93 rfl ?_
      refine jw_bipush (pc := 94) (v := 99) dX12_readRest_94 rfl ?_
      refine jw_callV (pc := 96) (m2 := mX12_count) (As := [.int (1 : Int32), .int (99 : Int32)]) (st := [.int (l1 + (3 : Int32)), .ref (x.2.2.2 5)]) dX12_readRest_96 sM_0 (by decide) rfl rfl gm_X12_count ml_X12_292 rfl (Nat.le_of_ble_eq_true rfl) (JC.mono h ?_)
      clear h
      rintro M8 _ ⟨r3, rfl, h⟩
      refine jw_st (st' := [.int r3, .int (l1 + (3 : Int32)), .ref (x.2.2.2 5)]) rfl ?_
      refine jw_iast (pc := 99) (j := j3) dX12_readRest_99 sM_5 hj3 ej3 (by decide) ?_
      replace h := h _ rfl
      generalize jrI M8 5 (upd (M8.1 5) j3 r3) = M9 at h ⊢
      refine jw_goto (pc := 100) (tgt := 141) dX12_readRest_100 (by decide) ?_
      exact jw_vret (pc := 141) dX12_readRest_141 rfl ⟨rfl, h⟩
set_option maxRecDepth 20000 in
theorem b_X12_readRest_113 {x : jX} {d : Nat} {M : jM} {P : jM → Prop} {l1 : Int32} 
    (h : JC x jtbM mX12_count d [.ref (x.2.2.2 0), .int (1 : Int32), .int (99 : Int32)] M (jI fun M1 r1 => ∃ j1, j1 < 2060 ∧ l1 + (3 : Int32) = nI j1 ∧ (∀ M2, M2 = jrI M1 5 (upd (M1.1 5) j1 r1) → P M2))) :
    JW x jtbM mX12_readRest (d + 1) (jV P) 113 [(0, .ref (x.2.2.2 0)), (1, .int l1)] [] M := by
  refine jw_aload_n (pc := 113) (j := 0) dX12_readRest_113 rfl rfl ?_
  refine jw_getR (pc := 114) (r := 5) dX12_readRest_114 sM_0 fl_X12_35 (by decide) rfl rfl ?_
  refine jw_iload_n (pc := 117) (j := 1) dX12_readRest_117 rfl rfl ?_
  refine jw_iconst (pc := 118) (v := 3) dX12_readRest_118 rfl ?_
  refine jw_iadd (pc := 119) dX12_readRest_119 ?_
  refine jw_aload_n (pc := 120) (j := 0) dX12_readRest_120 rfl rfl ?_
  refine jw_iconst (pc := 121) (v := 1) dX12_readRest_121 rfl ?_
  refine jw_bipush (pc := 122) (v := 99) dX12_readRest_122 rfl ?_
  refine jw_callV (pc := 124) (m2 := mX12_count) (As := [.int (1 : Int32), .int (99 : Int32)]) (st := [.int (l1 + (3 : Int32)), .ref (x.2.2.2 5)]) dX12_readRest_124 sM_0 (by decide) rfl rfl gm_X12_count ml_X12_292 rfl (Nat.le_of_ble_eq_true rfl) (JC.mono h ?_)
  clear h
  rintro M1 _ ⟨r1, rfl, h⟩
  refine jw_st (st' := [.int r1, .int (l1 + (3 : Int32)), .ref (x.2.2.2 5)]) rfl ?_
  obtain ⟨j1, hj1, ej1, h⟩ := h
  refine jw_iast (pc := 127) (j := j1) dX12_readRest_127 sM_5 hj1 ej1 (by decide) ?_
  replace h := h _ rfl
  generalize jrI M1 5 (upd (M1.1 5) j1 r1) = M2 at h ⊢
  refine jw_goto (pc := 128) (tgt := 141) dX12_readRest_128 (by decide) ?_
  exact jw_vret (pc := 141) dX12_readRest_141 rfl ⟨rfl, h⟩
set_option maxRecDepth 20000 in
theorem b_X12_readStep {x : jX} {d : Nat} {M : jM} {P : jM → Prop} {a1 : Int32} 
    (h : JC x jtbM mX12_isRaise d [.ref (x.2.2.2 0)] M (jZ fun M1 b1 => (b1 = false → JC x jtbM mX12_isLower d [.ref (x.2.2.2 0)] M1 (jZ fun M2 b2 => (b2 = false → JC x jtbM mX12_isStorm d [.ref (x.2.2.2 0)] M2 (jZ fun M3 b3 => (b3 = false → JC x jtbM mX12_isWhen d [.ref (x.2.2.2 0)] M3 (jZ fun M4 b4 => (b4 = false → JC x jtbM mX12_isLoop d [.ref (x.2.2.2 0)] M4 (jZ fun M5 b5 => (b5 = false → JC x jtbM mX12_isStop d [.ref (x.2.2.2 0)] M5 (jZ fun M6 b6 => (b6 = false → JW x jtbM mX12_readStep (d + 1) (jV P) 67 [(0, .ref (x.2.2.2 0)), (1, .int a1)] [.int (-1 : Int32)] M6) ∧ (b6 = true → JW x jtbM mX12_readStep (d + 1) (jV P) 67 [(0, .ref (x.2.2.2 0)), (1, .int a1)] [.int (5 : Int32)] M6))) ∧ (b5 = true → JW x jtbM mX12_readStep (d + 1) (jV P) 67 [(0, .ref (x.2.2.2 0)), (1, .int a1)] [.int (4 : Int32)] M5))) ∧ (b4 = true → JW x jtbM mX12_readStep (d + 1) (jV P) 67 [(0, .ref (x.2.2.2 0)), (1, .int a1)] [.int (3 : Int32)] M4))) ∧ (b3 = true → JW x jtbM mX12_readStep (d + 1) (jV P) 67 [(0, .ref (x.2.2.2 0)), (1, .int a1)] [.int (2 : Int32)] M3))) ∧ (b2 = true → JW x jtbM mX12_readStep (d + 1) (jV P) 67 [(0, .ref (x.2.2.2 0)), (1, .int a1)] [.int (1 : Int32)] M2))) ∧ (b1 = true → JW x jtbM mX12_readStep (d + 1) (jV P) 67 [(0, .ref (x.2.2.2 0)), (1, .int a1)] [.int (0 : Int32)] M1))) :
    JC x jtbM mX12_readStep (d + 1) [.ref (x.2.2.2 0), .int a1] M (jV P) := by
  refine JC.of rfl (Nat.le_of_ble_eq_true rfl) ?_
  refine jw_ls (ls' := [(0, .ref (x.2.2.2 0)), (1, .int a1)]) rfl ?_
  refine jw_aload_n (pc := 0) (j := 0) dX12_readStep_0 rfl rfl ?_
  refine jw_callV (pc := 1) (m2 := mX12_isRaise) (As := []) (st := []) dX12_readStep_1 sM_0 (by decide) rfl rfl gm_X12_isRaise ml_X12_190 rfl (Nat.le_of_ble_eq_true rfl) (JC.mono h ?_)
  clear h
  rintro M1 _ ⟨b1, rfl, h⟩
  refine jw_st (st' := [.int (jb b1)]) rfl ?_
  refine jw_if_eq (pc := 4) (tgt := 11) dX12_readStep_4 (by decide) (fun c => ?_) (fun c => ?_)
  · replace h := h.1 ((jb_0 _).mp c)
    refine jw_aload_n (pc := 11) (j := 0) dX12_readStep_11 rfl rfl ?_
    refine jw_callV (pc := 12) (m2 := mX12_isLower) (As := []) (st := []) dX12_readStep_12 sM_0 (by decide) rfl rfl gm_X12_isLower ml_X12_193 rfl (Nat.le_of_ble_eq_true rfl) (JC.mono h ?_)
    clear h
    rintro M2 _ ⟨b2, rfl, h⟩
    refine jw_st (st' := [.int (jb b2)]) rfl ?_
    refine jw_if_eq (pc := 15) (tgt := 22) dX12_readStep_15 (by decide) (fun c => ?_) (fun c => ?_)
    · replace h := h.1 ((jb_0 _).mp c)
      refine jw_aload_n (pc := 22) (j := 0) dX12_readStep_22 rfl rfl ?_
      refine jw_callV (pc := 23) (m2 := mX12_isStorm) (As := []) (st := []) dX12_readStep_23 sM_0 (by decide) rfl rfl gm_X12_isStorm ml_X12_199 rfl (Nat.le_of_ble_eq_true rfl) (JC.mono h ?_)
      clear h
      rintro M3 _ ⟨b3, rfl, h⟩
      refine jw_st (st' := [.int (jb b3)]) rfl ?_
      refine jw_if_eq (pc := 26) (tgt := 33) dX12_readStep_26 (by decide) (fun c => ?_) (fun c => ?_)
      · replace h := h.1 ((jb_0 _).mp c)
        refine jw_aload_n (pc := 33) (j := 0) dX12_readStep_33 rfl rfl ?_
        refine jw_callV (pc := 34) (m2 := mX12_isWhen) (As := []) (st := []) dX12_readStep_34 sM_0 (by decide) rfl rfl gm_X12_isWhen ml_X12_202 rfl (Nat.le_of_ble_eq_true rfl) (JC.mono h ?_)
        clear h
        rintro M4 _ ⟨b4, rfl, h⟩
        refine jw_st (st' := [.int (jb b4)]) rfl ?_
        refine jw_if_eq (pc := 37) (tgt := 44) dX12_readStep_37 (by decide) (fun c => ?_) (fun c => ?_)
        · replace h := h.1 ((jb_0 _).mp c)
          refine jw_aload_n (pc := 44) (j := 0) dX12_readStep_44 rfl rfl ?_
          refine jw_callV (pc := 45) (m2 := mX12_isLoop) (As := []) (st := []) dX12_readStep_45 sM_0 (by decide) rfl rfl gm_X12_isLoop ml_X12_217 rfl (Nat.le_of_ble_eq_true rfl) (JC.mono h ?_)
          clear h
          rintro M5 _ ⟨b5, rfl, h⟩
          refine jw_st (st' := [.int (jb b5)]) rfl ?_
          refine jw_if_eq (pc := 48) (tgt := 55) dX12_readStep_48 (by decide) (fun c => ?_) (fun c => ?_)
          · replace h := h.1 ((jb_0 _).mp c)
            refine jw_aload_n (pc := 55) (j := 0) dX12_readStep_55 rfl rfl ?_
            refine jw_callV (pc := 56) (m2 := mX12_isStop) (As := []) (st := []) dX12_readStep_56 sM_0 (by decide) rfl rfl gm_X12_isStop ml_X12_223 rfl (Nat.le_of_ble_eq_true rfl) (JC.mono h ?_)
            clear h
            rintro M6 _ ⟨b6, rfl, h⟩
            refine jw_st (st' := [.int (jb b6)]) rfl ?_
            refine jw_if_eq (pc := 59) (tgt := 66) dX12_readStep_59 (by decide) (fun c => ?_) (fun c => ?_)
            · replace h := h.1 ((jb_0 _).mp c)
              refine jw_iconst (pc := 66) (v := (-1)) dX12_readStep_66 rfl ?_
              exact jw_sub [0, 1] rfl h
            · replace h := h.2 (jb_ne c)
              refine jw_iconst (pc := 62) (v := 5) dX12_readStep_62 rfl ?_
              refine jw_goto (pc := 63) (tgt := 67) dX12_readStep_63 (by decide) ?_
              exact jw_sub [0, 1] rfl h
          · replace h := h.2 (jb_ne c)
            refine jw_iconst (pc := 51) (v := 4) dX12_readStep_51 rfl ?_
            refine jw_goto (pc := 52) (tgt := 67) dX12_readStep_52 (by decide) ?_
            exact jw_sub [0, 1] rfl h
        · replace h := h.2 (jb_ne c)
          refine jw_iconst (pc := 40) (v := 3) dX12_readStep_40 rfl ?_
          refine jw_goto (pc := 41) (tgt := 67) dX12_readStep_41 (by decide) ?_
          exact jw_sub [0, 1] rfl h
      · replace h := h.2 (jb_ne c)
        refine jw_iconst (pc := 29) (v := 2) dX12_readStep_29 rfl ?_
        refine jw_goto (pc := 30) (tgt := 67) dX12_readStep_30 (by decide) ?_
        exact jw_sub [0, 1] rfl h
    · replace h := h.2 (jb_ne c)
      refine jw_iconst (pc := 18) (v := 1) dX12_readStep_18 rfl ?_
      refine jw_goto (pc := 19) (tgt := 67) dX12_readStep_19 (by decide) ?_
      exact jw_sub [0, 1] rfl h
  · replace h := h.2 (jb_ne c)
    refine jw_iconst (pc := 7) (v := 0) dX12_readStep_7 rfl ?_
    refine jw_goto (pc := 8) (tgt := 67) dX12_readStep_8 (by decide) ?_
    exact jw_sub [0, 1] rfl h
set_option maxRecDepth 20000 in
theorem b_X12_readStep_67 {x : jX} {d : Nat} {M : jM} {P : jM → Prop} {l1 : Int32} {k0 : Int32} 
    (h : (k0 = (3 : Int32) → (0 ≤ k0 → JW x jtbM mX12_readStep (d + 1) (jV P) 92 [(0, .ref (x.2.2.2 0)), (1, .int l1), (2, .int k0), (3, .int (1 : Int32))] [] M) ∧ (¬ 0 ≤ k0 → JC x jtbM mX12_wrong d [.ref (x.2.2.2 0)] M (jV fun M1 => JW x jtbM mX12_readStep (d + 1) (jV P) 92 [(0, .ref (x.2.2.2 0)), (1, .int l1), (2, .int k0), (3, .int (1 : Int32))] [] M1))) ∧ (¬ k0 = (3 : Int32) → (¬ k0 = (4 : Int32) → (0 ≤ k0 → JW x jtbM mX12_readStep (d + 1) (jV P) 92 [(0, .ref (x.2.2.2 0)), (1, .int l1), (2, .int k0), (3, .int (0 : Int32))] [] M) ∧ (¬ 0 ≤ k0 → JC x jtbM mX12_wrong d [.ref (x.2.2.2 0)] M (jV fun M2 => JW x jtbM mX12_readStep (d + 1) (jV P) 92 [(0, .ref (x.2.2.2 0)), (1, .int l1), (2, .int k0), (3, .int (0 : Int32))] [] M2))) ∧ (k0 = (4 : Int32) → (0 ≤ k0 → JW x jtbM mX12_readStep (d + 1) (jV P) 92 [(0, .ref (x.2.2.2 0)), (1, .int l1), (2, .int k0), (3, .int (1 : Int32))] [] M) ∧ (¬ 0 ≤ k0 → JC x jtbM mX12_wrong d [.ref (x.2.2.2 0)] M (jV fun M3 => JW x jtbM mX12_readStep (d + 1) (jV P) 92 [(0, .ref (x.2.2.2 0)), (1, .int l1), (2, .int k0), (3, .int (1 : Int32))] [] M3))))) :
    JW x jtbM mX12_readStep (d + 1) (jV P) 67 [(0, .ref (x.2.2.2 0)), (1, .int l1)] [.int k0] M := by
  refine jw_istore_n (pc := 67) (ls' := [(2, .int k0), (0, .ref (x.2.2.2 0)), (1, .int l1)]) dX12_readStep_67 rfl (by decide) rfl ?_
  refine jw_iload_n (pc := 68) (j := 0) dX12_readStep_68 rfl rfl ?_
  refine jw_iconst (pc := 69) (v := 3) dX12_readStep_69 rfl ?_
  refine jw_icmp_eq (pc := 70) (tgt := 78) dX12_readStep_70 (by decide) (fun c => ?_) (fun c => ?_)
  · replace h := h.1 c
    refine jw_iconst (pc := 78) (v := 1) dX12_readStep_78 rfl ?_
    refine jw_goto (pc := 79) (tgt := 83) dX12_readStep_79 (by decide) ?_
    refine jw_istore_n (pc := 83) (ls' := [(3, .int (1 : Int32)), (2, .int k0), (0, .ref (x.2.2.2 0)), (1, .int l1)]) dX12_readStep_83 rfl (by decide) rfl ?_
    refine jw_iload_n (pc := 84) (j := 1) dX12_readStep_84 rfl rfl ?_
    refine jw_if_ge (pc := 85) (tgt := 92) dX12_readStep_85 (by decide) (fun c => ?_) (fun c => ?_)
    · replace h := h.1 c
      exact jw_sub [2, 3, 1, 0] rfl h
    · replace h := h.2 c
      refine jw_aload_n (pc := 88) (j := 2) dX12_readStep_88 rfl rfl ?_
      refine jw_callV (pc := 89) (m2 := mX12_wrong) (As := []) (st := []) dX12_readStep_89 sM_0 (by decide) rfl rfl gm_X12_wrong ml_X12_242 rfl (Nat.le_of_ble_eq_true rfl) (JC.mono h ?_)
      clear h
      rintro M1 _ ⟨rfl, h⟩
      refine jw_st (st' := []) rfl ?_
      exact jw_sub [2, 3, 1, 0] rfl h
  · replace h := h.2 c
    refine jw_iload_n (pc := 73) (j := 0) dX12_readStep_73 rfl rfl ?_
    refine jw_iconst (pc := 74) (v := 4) dX12_readStep_74 rfl ?_
    refine jw_icmp_ne (pc := 75) (tgt := 82) dX12_readStep_75 (by decide) (fun c => ?_) (fun c => ?_)
    · replace h := h.1 c
      refine jw_iconst (pc := 82) (v := 0) dX12_readStep_82 rfl ?_
      refine jw_istore_n (pc := 83) (ls' := [(3, .int (0 : Int32)), (2, .int k0), (0, .ref (x.2.2.2 0)), (1, .int l1)]) dX12_readStep_83 rfl (by decide) rfl ?_
      refine jw_iload_n (pc := 84) (j := 1) dX12_readStep_84 rfl rfl ?_
      refine jw_if_ge (pc := 85) (tgt := 92) dX12_readStep_85 (by decide) (fun c => ?_) (fun c => ?_)
      · replace h := h.1 c
        exact jw_sub [2, 3, 1, 0] rfl h
      · replace h := h.2 c
        refine jw_aload_n (pc := 88) (j := 2) dX12_readStep_88 rfl rfl ?_
        refine jw_callV (pc := 89) (m2 := mX12_wrong) (As := []) (st := []) dX12_readStep_89 sM_0 (by decide) rfl rfl gm_X12_wrong ml_X12_242 rfl (Nat.le_of_ble_eq_true rfl) (JC.mono h ?_)
        clear h
        rintro M2 _ ⟨rfl, h⟩
        refine jw_st (st' := []) rfl ?_
        exact jw_sub [2, 3, 1, 0] rfl h
    · replace h := h.2 c
      refine jw_iconst (pc := 78) (v := 1) dX12_readStep_78 rfl ?_
      refine jw_goto (pc := 79) (tgt := 83) dX12_readStep_79 (by decide) ?_
      refine jw_istore_n (pc := 83) (ls' := [(3, .int (1 : Int32)), (2, .int k0), (0, .ref (x.2.2.2 0)), (1, .int l1)]) dX12_readStep_83 rfl (by decide) rfl ?_
      refine jw_iload_n (pc := 84) (j := 1) dX12_readStep_84 rfl rfl ?_
      refine jw_if_ge (pc := 85) (tgt := 92) dX12_readStep_85 (by decide) (fun c => ?_) (fun c => ?_)
      · replace h := h.1 c
        exact jw_sub [2, 3, 1, 0] rfl h
      · replace h := h.2 c
        refine jw_aload_n (pc := 88) (j := 2) dX12_readStep_88 rfl rfl ?_
        refine jw_callV (pc := 89) (m2 := mX12_wrong) (As := []) (st := []) dX12_readStep_89 sM_0 (by decide) rfl rfl gm_X12_wrong ml_X12_242 rfl (Nat.le_of_ble_eq_true rfl) (JC.mono h ?_)
        clear h
        rintro M3 _ ⟨rfl, h⟩
        refine jw_st (st' := []) rfl ?_
        exact jw_sub [2, 3, 1, 0] rfl h
set_option maxRecDepth 20000 in
theorem b_X12_readStep_92 {x : jX} {d : Nat} {M : jM} {P : jM → Prop} {l1 : Int32} {l2 : Int32} {l3 : Int32} 
    (h : (¬ (M.1 0 12) = 0 → JW x jtbM mX12_readStep (d + 1) (jV P) 118 [(0, .ref (x.2.2.2 0)), (1, .int l1), (2, .int l2), (3, .int l3)] [] M) ∧ ((M.1 0 12) = 0 → (¬ (M.1 0 53) = (30 : Int32) → JW x jtbM mX12_readStep (d + 1) (jV P) 118 [(0, .ref (x.2.2.2 0)), (1, .int l1), (2, .int l2), (3, .int l3)] [] M) ∧ ((M.1 0 53) = (30 : Int32) → JC x jtbM mX12_fail d [.ref (x.2.2.2 0), .int (6 : Int32), .int (M.1 0 15)] M (jV fun M1 => JW x jtbM mX12_readStep (d + 1) (jV P) 118 [(0, .ref (x.2.2.2 0)), (1, .int l1), (2, .int l2), (3, .int l3)] [] M1)))) :
    JW x jtbM mX12_readStep (d + 1) (jV P) 92 [(0, .ref (x.2.2.2 0)), (1, .int l1), (2, .int l2), (3, .int l3)] [] M := by
  refine jw_aload_n (pc := 92) (j := 0) dX12_readStep_92 rfl rfl ?_
  refine jw_getI (pc := 93) dX12_readStep_93 sM_0 fl_X12_229 (by decide) rfl ?_
  refine jw_if_ne (pc := 96) (tgt := 118) dX12_readStep_96 (by decide) (fun c => ?_) (fun c => ?_)
  · replace h := h.1 c
    exact jw_sub [0, 1, 2, 3] rfl h
  · replace h := h.2 c
    refine jw_aload_n (pc := 99) (j := 0) dX12_readStep_99 rfl rfl ?_
    refine jw_getI (pc := 100) dX12_readStep_100 sM_0 fl_X12_451 (by decide) rfl ?_
    refine jw_bipush (pc := 103) (v := 30) dX12_readStep_103 rfl ?_
    refine jw_icmp_ne (pc := 105) (tgt := 118) dX12_readStep_105 (by decide) (fun c => ?_) (fun c => ?_)
    · replace h := h.1 c
      exact jw_sub [0, 1, 2, 3] rfl h
    · replace h := h.2 c
      refine jw_aload_n (pc := 108) (j := 0) dX12_readStep_108 rfl rfl ?_
      refine jw_bipush (pc := 109) (v := 6) dX12_readStep_109 rfl ?_
      refine jw_aload_n (pc := 111) (j := 0) dX12_readStep_111 rfl rfl ?_
      refine jw_getI (pc := 112) dX12_readStep_112 sM_0 fl_X12_126 (by decide) rfl ?_
      refine jw_callV (pc := 115) (m2 := mX12_fail) (As := [.int (6 : Int32), .int (M.1 0 15)]) (st := []) dX12_readStep_115 sM_0 (by decide) rfl rfl gm_X12_fail ml_X12_235 rfl (Nat.le_of_ble_eq_true rfl) (JC.mono h ?_)
      clear h
      rintro M1 _ ⟨rfl, h⟩
      refine jw_st (st' := []) rfl ?_
      exact jw_sub [0, 1, 2, 3] rfl h
set_option maxRecDepth 20000 in
theorem b_X12_readStep_118 {x : jX} {d : Nat} {M : jM} {P : jM → Prop} {l1 : Int32} {l2 : Int32} {l3 : Int32} 
    (h : (¬ (M.1 0 12) = 0 → JW x jtbM mX12_readStep (d + 1) (jV P) 144 [(0, .ref (x.2.2.2 0)), (1, .int l1), (2, .int l2), (3, .int l3)] [] M) ∧ ((M.1 0 12) = 0 → (l3 = 0 → JW x jtbM mX12_readStep (d + 1) (jV P) 144 [(0, .ref (x.2.2.2 0)), (1, .int l1), (2, .int l2), (3, .int l3)] [] M) ∧ (¬ l3 = 0 → (¬ l1 = (3 : Int32) → JW x jtbM mX12_readStep (d + 1) (jV P) 144 [(0, .ref (x.2.2.2 0)), (1, .int l1), (2, .int l2), (3, .int l3)] [] M) ∧ (l1 = (3 : Int32) → JC x jtbM mX12_fail d [.ref (x.2.2.2 0), .int (7 : Int32), .int (M.1 0 15)] M (jV fun M1 => JW x jtbM mX12_readStep (d + 1) (jV P) 144 [(0, .ref (x.2.2.2 0)), (1, .int l1), (2, .int l2), (3, .int l3)] [] M1))))) :
    JW x jtbM mX12_readStep (d + 1) (jV P) 118 [(0, .ref (x.2.2.2 0)), (1, .int l1), (2, .int l2), (3, .int l3)] [] M := by
  refine jw_aload_n (pc := 118) (j := 0) dX12_readStep_118 rfl rfl ?_
  refine jw_getI (pc := 119) dX12_readStep_119 sM_0 fl_X12_229 (by decide) rfl ?_
  refine jw_if_ne (pc := 122) (tgt := 144) dX12_readStep_122 (by decide) (fun c => ?_) (fun c => ?_)
  · replace h := h.1 c
    exact jw_sub [0, 1, 2, 3] rfl h
  · replace h := h.2 c
    refine jw_iload_n (pc := 125) (j := 3) dX12_readStep_125 rfl rfl ?_
    refine jw_if_eq (pc := 126) (tgt := 144) dX12_readStep_126 (by decide) (fun c => ?_) (fun c => ?_)
    · replace h := h.1 c
      exact jw_sub [0, 1, 2, 3] rfl h
    · replace h := h.2 c
      refine jw_iload_n (pc := 129) (j := 1) dX12_readStep_129 rfl rfl ?_
      refine jw_iconst (pc := 130) (v := 3) dX12_readStep_130 rfl ?_
      refine jw_icmp_ne (pc := 131) (tgt := 144) dX12_readStep_131 (by decide) (fun c => ?_) (fun c => ?_)
      · replace h := h.1 c
        exact jw_sub [0, 1, 2, 3] rfl h
      · replace h := h.2 c
        refine jw_aload_n (pc := 134) (j := 0) dX12_readStep_134 rfl rfl ?_
        refine jw_bipush (pc := 135) (v := 7) dX12_readStep_135 rfl ?_
        refine jw_aload_n (pc := 137) (j := 0) dX12_readStep_137 rfl rfl ?_
        refine jw_getI (pc := 138) dX12_readStep_138 sM_0 fl_X12_126 (by decide) rfl ?_
        refine jw_callV (pc := 141) (m2 := mX12_fail) (As := [.int (7 : Int32), .int (M.1 0 15)]) (st := []) dX12_readStep_141 sM_0 (by decide) rfl rfl gm_X12_fail ml_X12_235 rfl (Nat.le_of_ble_eq_true rfl) (JC.mono h ?_)
        clear h
        rintro M1 _ ⟨rfl, h⟩
        refine jw_st (st' := []) rfl ?_
        exact jw_sub [0, 1, 2, 3] rfl h
set_option maxRecDepth 20000 in
theorem b_X12_readStep_144 {x : jX} {d : Nat} {M : jM} {P : jM → Prop} {l1 : Int32} {l2 : Int32} {l3 : Int32} 
    (h : ((M.1 0 12) ≤ 0 → ∀ M1, M1 = jrI M 0 (upd (M.1 0) 53 ((M.1 0 53) + (1 : Int32))) → JC x jtbM mX12_next d [.ref (x.2.2.2 0)] M1 (jV fun M2 => ∃ j1, j1 < 2060 ∧ (1819 : Int32) + ((8 : Int32) * (M.1 0 53)) = nI j1 ∧ (∀ M3, M3 = jrI M2 5 (upd (M2.1 5) j1 l2) → JC x jtbM mX12_readRest d [.ref (x.2.2.2 0), .int ((1819 : Int32) + ((8 : Int32) * (M.1 0 53)))] M3 (jV fun M4 => JC x jtbM mX12_isSign d [.ref (x.2.2.2 0), .int (59 : Int32)] M4 (jZ fun M5 b1 => JC x jtbM mX12_must d [.ref (x.2.2.2 0), .int (jb b1)] M5 (jV fun M6 => JW x jtbM mX12_readStep (d + 1) (jV P) 203 [(0, .ref (x.2.2.2 0)), (1, .int l1), (3, .int l3), (4, .int ((1819 : Int32) + ((8 : Int32) * (M.1 0 53))))] [] M6)))))) ∧ (¬ (M.1 0 12) ≤ 0 → P M)) :
    JW x jtbM mX12_readStep (d + 1) (jV P) 144 [(0, .ref (x.2.2.2 0)), (1, .int l1), (2, .int l2), (3, .int l3)] [] M := by
  refine jw_aload_n (pc := 144) (j := 0) dX12_readStep_144 rfl rfl ?_
  refine jw_getI (pc := 145) dX12_readStep_145 sM_0 fl_X12_229 (by decide) rfl ?_
  refine jw_if_le (pc := 148) (tgt := 152) dX12_readStep_148 (by decide) (fun c => ?_) (fun c => ?_)
  · replace h := h.1 c
    refine jw_sipush (pc := 152) (v := 1819) dX12_readStep_152 rfl ?_
    refine jw_bipush (pc := 155) (v := 8) dX12_readStep_155 rfl ?_
    refine jw_aload_n (pc := 157) (j := 0) dX12_readStep_157 rfl rfl ?_
    refine jw_getI (pc := 158) dX12_readStep_158 sM_0 fl_X12_451 (by decide) rfl ?_
    refine jw_imul (pc := 161) dX12_readStep_161 ?_
    refine jw_iadd (pc := 162) dX12_readStep_162 ?_
    refine jw_istore (pc := 163) (ls' := [(4, .int ((1819 : Int32) + ((8 : Int32) * (M.1 0 53)))), (0, .ref (x.2.2.2 0)), (1, .int l1), (2, .int l2), (3, .int l3)]) dX12_readStep_163 (by decide) rfl ?_
    refine jw_aload_n (pc := 165) (j := 1) dX12_readStep_165 rfl rfl ?_
    refine jw_dup (pc := 166) dX12_readStep_166 rfl ?_
    refine jw_getI (pc := 167) dX12_readStep_167 sM_0 fl_X12_451 (by decide) rfl ?_
    refine jw_iconst (pc := 170) (v := 1) dX12_readStep_170 rfl ?_
    refine jw_iadd (pc := 171) dX12_readStep_171 ?_
    refine jw_putI (pc := 172) dX12_readStep_172 sM_0 fl_X12_451 fw_12_53 (by decide) rfl ?_
    replace h := h _ rfl
    generalize jrI M 0 (upd (M.1 0) 53 ((M.1 0 53) + (1 : Int32))) = M1 at h ⊢
    refine jw_aload_n (pc := 175) (j := 1) dX12_readStep_175 rfl rfl ?_
    refine jw_callV (pc := 176) (m2 := mX12_next) (As := []) (st := []) dX12_readStep_176 sM_0 (by decide) rfl rfl gm_X12_next ml_X12_239 rfl (Nat.le_of_ble_eq_true rfl) (JC.mono h ?_)
    clear h
    rintro M2 _ ⟨rfl, h⟩
    refine jw_st (st' := []) rfl ?_
    refine jw_aload_n (pc := 179) (j := 1) dX12_readStep_179 rfl rfl ?_
    refine jw_getR (pc := 180) (r := 5) dX12_readStep_180 sM_0 fl_X12_35 (by decide) rfl rfl ?_
    refine jw_iload (pc := 183) (j := 0) dX12_readStep_183 rfl ?_
    refine jw_iload_n (pc := 185) (j := 3) dX12_readStep_185 rfl rfl ?_
    obtain ⟨j1, hj1, ej1, h⟩ := h
    refine jw_iast (pc := 186) (j := j1) dX12_readStep_186 sM_5 hj1 ej1 (by decide) ?_
    replace h := h _ rfl
    generalize jrI M2 5 (upd (M2.1 5) j1 l2) = M3 at h ⊢
    refine jw_aload_n (pc := 187) (j := 1) dX12_readStep_187 rfl rfl ?_
    refine jw_iload (pc := 188) (j := 0) dX12_readStep_188 rfl ?_
    refine jw_callV (pc := 190) (m2 := mX12_readRest) (As := [.int ((1819 : Int32) + ((8 : Int32) * (M.1 0 53)))]) (st := []) dX12_readStep_190 sM_0 (by decide) rfl rfl gm_X12_readRest ml_X12_454 rfl (Nat.le_of_ble_eq_true rfl) (JC.mono h ?_)
    clear h
    rintro M4 _ ⟨rfl, h⟩
    refine jw_st (st' := []) rfl ?_
    refine jw_aload_n (pc := 193) (j := 1) dX12_readStep_193 rfl rfl ?_
    refine jw_aload_n (pc := 194) (j := 1) dX12_readStep_194 rfl rfl ?_
    refine jw_bipush (pc := 195) (v := 59) dX12_readStep_195 rfl ?_
    refine jw_callV (pc := 197) (m2 := mX12_isSign) (As := [.int (59 : Int32)]) (st := [.ref (x.2.2.2 0)]) dX12_readStep_197 sM_0 (by decide) rfl rfl gm_X12_isSign ml_X12_252 rfl (Nat.le_of_ble_eq_true rfl) (JC.mono h ?_)
    clear h
    rintro M5 _ ⟨b1, rfl, h⟩
    refine jw_st (st' := [.int (jb b1), .ref (x.2.2.2 0)]) rfl ?_
    refine jw_callV (pc := 200) (m2 := mX12_must) (As := [.int (jb b1)]) (st := []) dX12_readStep_200 sM_0 (by decide) rfl rfl gm_X12_must ml_X12_265 rfl (Nat.le_of_ble_eq_true rfl) (JC.mono h ?_)
    clear h
    rintro M6 _ ⟨rfl, h⟩
    refine jw_st (st' := []) rfl ?_
    exact jw_sub [1, 2, 4, 0] rfl h
  · replace h := h.2 c
    exact jw_vret (pc := 151) dX12_readStep_151 rfl ⟨rfl, h⟩
set_option maxRecDepth 20000 in
theorem b_X12_readStep_203 {x : jX} {d : Nat} {M : jM} {P : jM → Prop} {l1 : Int32} {l3 : Int32} {l4 : Int32} 
    (h : (l3 = 0 → JW x jtbM mX12_readStep (d + 1) (jV P) 231 [(0, .ref (x.2.2.2 0)), (3, .int l3), (4, .int l4)] [] M) ∧ (¬ l3 = 0 → (¬ (M.1 0 12) = 0 → JW x jtbM mX12_readStep (d + 1) (jV P) 231 [(0, .ref (x.2.2.2 0)), (3, .int l3), (4, .int l4)] [] M) ∧ ((M.1 0 12) = 0 → JC x jtbM mX12_isEnd d [.ref (x.2.2.2 0)] M (jZ fun M1 b1 => (b1 = true → JW x jtbM mX12_readStep (d + 1) (jV P) 231 [(0, .ref (x.2.2.2 0)), (3, .int l3), (4, .int l4)] [] M1) ∧ (b1 = false → JC x jtbM mX12_readStep d [.ref (x.2.2.2 0), .int (l1 + (1 : Int32))] M1 (jV fun M2 => JW x jtbM mX12_readStep (d + 1) (jV P) 203 [(0, .ref (x.2.2.2 0)), (1, .int l1), (3, .int l3), (4, .int l4)] [] M2)))))) :
    JW x jtbM mX12_readStep (d + 1) (jV P) 203 [(0, .ref (x.2.2.2 0)), (1, .int l1), (3, .int l3), (4, .int l4)] [] M := by
  refine jw_iload_n (pc := 203) (j := 2) dX12_readStep_203 rfl rfl ?_
  refine jw_if_eq (pc := 204) (tgt := 231) dX12_readStep_204 (by decide) (fun c => ?_) (fun c => ?_)
  · replace h := h.1 c
    exact jw_sub [0, 2, 3] rfl h
  · replace h := h.2 c
    refine jw_aload_n (pc := 207) (j := 0) dX12_readStep_207 rfl rfl ?_
    refine jw_getI (pc := 208) dX12_readStep_208 sM_0 fl_X12_229 (by decide) rfl ?_
    refine jw_if_ne (pc := 211) (tgt := 231) dX12_readStep_211 (by decide) (fun c => ?_) (fun c => ?_)
    · replace h := h.1 c
      exact jw_sub [0, 2, 3] rfl h
    · replace h := h.2 c
      refine jw_aload_n (pc := 214) (j := 0) dX12_readStep_214 rfl rfl ?_
      refine jw_callV (pc := 215) (m2 := mX12_isEnd) (As := []) (st := []) dX12_readStep_215 sM_0 (by decide) rfl rfl gm_X12_isEnd ml_X12_220 rfl (Nat.le_of_ble_eq_true rfl) (JC.mono h ?_)
      clear h
      rintro M1 _ ⟨b1, rfl, h⟩
      refine jw_st (st' := [.int (jb b1)]) rfl ?_
      refine jw_if_ne (pc := 218) (tgt := 231) dX12_readStep_218 (by decide) (fun c => ?_) (fun c => ?_)
      · replace h := h.1 (jb_ne c)
        exact jw_sub [0, 2, 3] rfl h
      · replace h := h.2 ((jb_0 _).mp c)
        refine jw_aload_n (pc := 221) (j := 0) dX12_readStep_221 rfl rfl ?_
        refine jw_iload_n (pc := 222) (j := 1) dX12_readStep_222 rfl rfl ?_
        refine jw_iconst (pc := 223) (v := 1) dX12_readStep_223 rfl ?_
        refine jw_iadd (pc := 224) dX12_readStep_224 ?_
        refine jw_callV (pc := 225) (m2 := mX12_readStep) (As := [.int (l1 + (1 : Int32))]) (st := []) dX12_readStep_225 sM_0 (by decide) rfl rfl gm_X12_readStep ml_X12_457 rfl (Nat.le_of_ble_eq_true rfl) (JC.mono h ?_)
        clear h
        rintro M2 _ ⟨rfl, h⟩
        refine jw_st (st' := []) rfl ?_
        refine jw_goto (pc := 228) (tgt := 203) dX12_readStep_228 (by decide) ?_
        exact jw_sub [0, 1, 2, 3] rfl h
set_option maxRecDepth 20000 in
theorem b_X12_readStep_231 {x : jX} {d : Nat} {M : jM} {P : jM → Prop} {l3 : Int32} {l4 : Int32} 
    (h : (l3 = 0 → JW x jtbM mX12_readStep (d + 1) (jV P) 253 [(0, .ref (x.2.2.2 0)), (4, .int l4)] [] M) ∧ (¬ l3 = 0 → JC x jtbM mX12_isEnd d [.ref (x.2.2.2 0)] M (jZ fun M1 b1 => JC x jtbM mX12_must d [.ref (x.2.2.2 0), .int (jb b1)] M1 (jV fun M2 => JC x jtbM mX12_isSign d [.ref (x.2.2.2 0), .int (59 : Int32)] M2 (jZ fun M3 b2 => JC x jtbM mX12_must d [.ref (x.2.2.2 0), .int (jb b2)] M3 (jV fun M4 => JW x jtbM mX12_readStep (d + 1) (jV P) 253 [(0, .ref (x.2.2.2 0)), (4, .int l4)] [] M4)))))) :
    JW x jtbM mX12_readStep (d + 1) (jV P) 231 [(0, .ref (x.2.2.2 0)), (3, .int l3), (4, .int l4)] [] M := by
  refine jw_iload_n (pc := 231) (j := 1) dX12_readStep_231 rfl rfl ?_
  refine jw_if_eq (pc := 232) (tgt := 253) dX12_readStep_232 (by decide) (fun c => ?_) (fun c => ?_)
  · replace h := h.1 c
    exact jw_sub [0, 2] rfl h
  · replace h := h.2 c
    refine jw_aload_n (pc := 235) (j := 0) dX12_readStep_235 rfl rfl ?_
    refine jw_aload_n (pc := 236) (j := 0) dX12_readStep_236 rfl rfl ?_
    refine jw_callV (pc := 237) (m2 := mX12_isEnd) (As := []) (st := [.ref (x.2.2.2 0)]) dX12_readStep_237 sM_0 (by decide) rfl rfl gm_X12_isEnd ml_X12_220 rfl (Nat.le_of_ble_eq_true rfl) (JC.mono h ?_)
    clear h
    rintro M1 _ ⟨b1, rfl, h⟩
    refine jw_st (st' := [.int (jb b1), .ref (x.2.2.2 0)]) rfl ?_
    refine jw_callV (pc := 240) (m2 := mX12_must) (As := [.int (jb b1)]) (st := []) dX12_readStep_240 sM_0 (by decide) rfl rfl gm_X12_must ml_X12_265 rfl (Nat.le_of_ble_eq_true rfl) (JC.mono h ?_)
    clear h
    rintro M2 _ ⟨rfl, h⟩
    refine jw_st (st' := []) rfl ?_
    refine jw_aload_n (pc := 243) (j := 0) dX12_readStep_243 rfl rfl ?_
    refine jw_aload_n (pc := 244) (j := 0) dX12_readStep_244 rfl rfl ?_
    refine jw_bipush (pc := 245) (v := 59) dX12_readStep_245 rfl ?_
    refine jw_callV (pc := 247) (m2 := mX12_isSign) (As := [.int (59 : Int32)]) (st := [.ref (x.2.2.2 0)]) dX12_readStep_247 sM_0 (by decide) rfl rfl gm_X12_isSign ml_X12_252 rfl (Nat.le_of_ble_eq_true rfl) (JC.mono h ?_)
    clear h
    rintro M3 _ ⟨b2, rfl, h⟩
    refine jw_st (st' := [.int (jb b2), .ref (x.2.2.2 0)]) rfl ?_
    refine jw_callV (pc := 250) (m2 := mX12_must) (As := [.int (jb b2)]) (st := []) dX12_readStep_250 sM_0 (by decide) rfl rfl gm_X12_must ml_X12_265 rfl (Nat.le_of_ble_eq_true rfl) (JC.mono h ?_)
    clear h
    rintro M4 _ ⟨rfl, h⟩
    refine jw_st (st' := []) rfl ?_
    exact jw_sub [0, 2] rfl h
set_option maxRecDepth 20000 in
theorem b_X12_readStep_253 {x : jX} {d : Nat} {M : jM} {P : jM → Prop} {l4 : Int32} 
    (h : ∃ j1, j1 < 2060 ∧ l4 + (7 : Int32) = nI j1 ∧ (∀ M1, M1 = jrI M 5 (upd (M.1 5) j1 (M.1 0 53)) → P M1)) :
    JW x jtbM mX12_readStep (d + 1) (jV P) 253 [(0, .ref (x.2.2.2 0)), (4, .int l4)] [] M := by
  refine jw_aload_n (pc := 253) (j := 0) dX12_readStep_253 rfl rfl ?_
  refine jw_getR (pc := 254) (r := 5) dX12_readStep_254 sM_0 fl_X12_35 (by decide) rfl rfl ?_
  refine jw_iload (pc := 257) (j := 1) dX12_readStep_257 rfl ?_
  refine jw_bipush (pc := 259) (v := 7) dX12_readStep_259 rfl ?_
  refine jw_iadd (pc := 261) dX12_readStep_261 ?_
  refine jw_aload_n (pc := 262) (j := 0) dX12_readStep_262 rfl rfl ?_
  refine jw_getI (pc := 263) dX12_readStep_263 sM_0 fl_X12_451 (by decide) rfl ?_
  obtain ⟨j1, hj1, ej1, h⟩ := h
  refine jw_iast (pc := 266) (j := j1) dX12_readStep_266 sM_5 hj1 ej1 (by decide) ?_
  replace h := h _ rfl
  generalize jrI M 5 (upd (M.1 5) j1 (M.1 0 53)) = M1 at h ⊢
  exact jw_vret (pc := 267) dX12_readStep_267 rfl ⟨rfl, h⟩
set_option maxRecDepth 20000 in
theorem b_X12_orders {x : jX} {d : Nat} {M : jM} {P : jM → Int32 → Prop} {a1 : Int32} 
    (h : ∀ M1, M1 = jrI M 0 (upd (M.1 0) 1 (0 : Int32)) → ∀ M2, M2 = jrI M1 0 (upd (M1.1 0) 0 (0 : Int32)) → JC x jtbM mX12_opens d [.ref (x.2.2.2 0), .int a1, .int (300 : Int32)] M2 (jZ fun M3 b1 => (b1 = true → ∀ M4, M4 = jrI M3 0 (upd (M3.1 0) 53 (0 : Int32)) → JW x jtbM mX12_orders (d + 1) (jI P) 28 [(0, .ref (x.2.2.2 0))] [] M4) ∧ (b1 = false → P M3 (-1 : Int32)))) :
    JC x jtbM mX12_orders (d + 1) [.ref (x.2.2.2 0), .int a1] M (jI P) := by
  refine JC.of rfl (Nat.le_of_ble_eq_true rfl) ?_
  refine jw_ls (ls' := [(0, .ref (x.2.2.2 0)), (1, .int a1)]) rfl ?_
  refine jw_aload_n (pc := 0) (j := 0) dX12_orders_0 rfl rfl ?_
  refine jw_iconst (pc := 1) (v := 0) dX12_orders_1 rfl ?_
  refine jw_putI (pc := 2) dX12_orders_2 sM_0 fl_X12_81 fw_12_1 (by decide) rfl ?_
  replace h := h _ rfl
  generalize jrI M 0 (upd (M.1 0) 1 (0 : Int32)) = M1 at h ⊢
  refine jw_aload_n (pc := 5) (j := 0) dX12_orders_5 rfl rfl ?_
  refine jw_iconst (pc := 6) (v := 0) dX12_orders_6 rfl ?_
  refine jw_putI (pc := 7) dX12_orders_7 sM_0 fl_X12_84 fw_12_0 (by decide) rfl ?_
  replace h := h _ rfl
  generalize jrI M1 0 (upd (M1.1 0) 0 (0 : Int32)) = M2 at h ⊢
  refine jw_aload_n (pc := 10) (j := 0) dX12_orders_10 rfl rfl ?_
  refine jw_iload_n (pc := 11) (j := 1) dX12_orders_11 rfl rfl ?_
  refine jw_sipush (pc := 12) (v := 300) dX12_orders_12 rfl ?_
  refine jw_callV (pc := 15) (m2 := mX12_opens) (As := [.int a1, .int (300 : Int32)]) (st := []) dX12_orders_15 sM_0 (by decide) rfl rfl gm_X12_opens ml_X12_273 rfl (Nat.le_of_ble_eq_true rfl) (JC.mono h ?_)
  clear h
  rintro M3 _ ⟨b1, rfl, h⟩
  refine jw_st (st' := [.int (jb b1)]) rfl ?_
  refine jw_if_ne (pc := 18) (tgt := 23) dX12_orders_18 (by decide) (fun c => ?_) (fun c => ?_)
  · replace h := h.1 (jb_ne c)
    refine jw_aload_n (pc := 23) (j := 0) dX12_orders_23 rfl rfl ?_
    refine jw_iconst (pc := 24) (v := 0) dX12_orders_24 rfl ?_
    refine jw_putI (pc := 25) dX12_orders_25 sM_0 fl_X12_451 fw_12_53 (by decide) rfl ?_
    replace h := h _ rfl
    generalize jrI M3 0 (upd (M3.1 0) 53 (0 : Int32)) = M4 at h ⊢
    exact jw_sub [0] rfl h
  · replace h := h.2 ((jb_0 _).mp c)
    refine jw_iconst (pc := 21) (v := (-1)) dX12_orders_21 rfl ?_
    exact jw_iret (pc := 22) dX12_orders_22 rfl ⟨_, rfl, h⟩
set_option maxRecDepth 20000 in
theorem b_X12_orders_28 {x : jX} {d : Nat} {M : jM} {P : jM → Int32 → Prop}  
    (h : (¬ (M.1 0 12) = 0 → JW x jtbM mX12_orders (d + 1) (jI P) 50 [(0, .ref (x.2.2.2 0))] [] M) ∧ ((M.1 0 12) = 0 → ((M.1 0 14) = 0 → JW x jtbM mX12_orders (d + 1) (jI P) 50 [(0, .ref (x.2.2.2 0))] [] M) ∧ (¬ (M.1 0 14) = 0 → JC x jtbM mX12_readStep d [.ref (x.2.2.2 0), .int (0 : Int32)] M (jV fun M1 => JW x jtbM mX12_orders (d + 1) (jI P) 28 [(0, .ref (x.2.2.2 0))] [] M1)))) :
    JW x jtbM mX12_orders (d + 1) (jI P) 28 [(0, .ref (x.2.2.2 0))] [] M := by
  refine jw_aload_n (pc := 28) (j := 0) dX12_orders_28 rfl rfl ?_
  refine jw_getI (pc := 29) dX12_orders_29 sM_0 fl_X12_229 (by decide) rfl ?_
  refine jw_if_ne (pc := 32) (tgt := 50) dX12_orders_32 (by decide) (fun c => ?_) (fun c => ?_)
  · replace h := h.1 c
    exact jw_sub [0] rfl h
  · replace h := h.2 c
    refine jw_aload_n (pc := 35) (j := 0) dX12_orders_35 rfl rfl ?_
    refine jw_getI (pc := 36) dX12_orders_36 sM_0 fl_X12_132 (by decide) rfl ?_
    refine jw_if_eq (pc := 39) (tgt := 50) dX12_orders_39 (by decide) (fun c => ?_) (fun c => ?_)
    · replace h := h.1 c
      exact jw_sub [0] rfl h
    · replace h := h.2 c
      refine jw_aload_n (pc := 42) (j := 0) dX12_orders_42 rfl rfl ?_
      refine jw_iconst (pc := 43) (v := 0) dX12_orders_43 rfl ?_
      refine jw_callV (pc := 44) (m2 := mX12_readStep) (As := [.int (0 : Int32)]) (st := []) dX12_orders_44 sM_0 (by decide) rfl rfl gm_X12_readStep ml_X12_457 rfl (Nat.le_of_ble_eq_true rfl) (JC.mono h ?_)
      clear h
      rintro M1 _ ⟨rfl, h⟩
      refine jw_st (st' := []) rfl ?_
      refine jw_goto (pc := 47) (tgt := 28) dX12_orders_47 (by decide) ?_
      exact jw_sub [0] rfl h
set_option maxRecDepth 20000 in
theorem b_X12_orders_50 {x : jX} {d : Nat} {M : jM} {P : jM → Int32 → Prop}  
    (h : JC x jtbM mX12_isWell d [.ref (x.2.2.2 0)] M (jZ fun M1 b1 => (b1 = true → ∀ M2, M2 = jrI M1 5 (upd (M1.1 5) 169 (1 : Int32)) → ∀ M3, M3 = jrI M2 5 (upd (M2.1 5) 170 (M2.1 0 53)) → JW x jtbM mX12_orders (d + 1) (jI P) 82 [(0, .ref (x.2.2.2 0)), (2, .int (0 : Int32))] [] M3) ∧ (b1 = false → P M1 (-1 : Int32)))) :
    JW x jtbM mX12_orders (d + 1) (jI P) 50 [(0, .ref (x.2.2.2 0))] [] M := by
  refine jw_aload_n (pc := 50) (j := 0) dX12_orders_50 rfl rfl ?_
  refine jw_callV (pc := 51) (m2 := mX12_isWell) (As := []) (st := []) dX12_orders_51 sM_0 (by decide) rfl rfl gm_X12_isWell ml_X12_302 rfl (Nat.le_of_ble_eq_true rfl) (JC.mono h ?_)
  clear h
  rintro M1 _ ⟨b1, rfl, h⟩
  refine jw_st (st' := [.int (jb b1)]) rfl ?_
  refine jw_if_ne (pc := 54) (tgt := 59) dX12_orders_54 (by decide) (fun c => ?_) (fun c => ?_)
  · replace h := h.1 (jb_ne c)
    refine jw_aload_n (pc := 59) (j := 0) dX12_orders_59 rfl rfl ?_
    refine jw_getR (pc := 60) (r := 5) dX12_orders_60 sM_0 fl_X12_35 (by decide) rfl rfl ?_
    refine jw_sipush (pc := 63) (v := 169) dX12_orders_63 rfl ?_
    refine jw_iconst (pc := 66) (v := 1) dX12_orders_66 rfl ?_
    refine jw_iast (pc := 67) (j := 169) dX12_orders_67 sM_5 (by decide) rfl (by decide) ?_
    replace h := h _ rfl
    generalize jrI M1 5 (upd (M1.1 5) 169 (1 : Int32)) = M2 at h ⊢
    refine jw_aload_n (pc := 68) (j := 0) dX12_orders_68 rfl rfl ?_
    refine jw_getR (pc := 69) (r := 5) dX12_orders_69 sM_0 fl_X12_35 (by decide) rfl rfl ?_
    refine jw_sipush (pc := 72) (v := 170) dX12_orders_72 rfl ?_
    refine jw_aload_n (pc := 75) (j := 0) dX12_orders_75 rfl rfl ?_
    refine jw_getI (pc := 76) dX12_orders_76 sM_0 fl_X12_451 (by decide) rfl ?_
    refine jw_iast (pc := 79) (j := 170) dX12_orders_79 sM_5 (by decide) rfl (by decide) ?_
    replace h := h _ rfl
    generalize jrI M2 5 (upd (M2.1 5) 170 (M2.1 0 53)) = M3 at h ⊢
    refine jw_iconst (pc := 80) (v := 0) dX12_orders_80 rfl ?_
    refine jw_istore_n (pc := 81) (ls' := [(2, .int (0 : Int32)), (0, .ref (x.2.2.2 0))]) dX12_orders_81 rfl (by decide) rfl ?_
    exact jw_sub [1, 0] rfl h
  · replace h := h.2 ((jb_0 _).mp c)
    refine jw_iconst (pc := 57) (v := (-1)) dX12_orders_57 rfl ?_
    exact jw_iret (pc := 58) dX12_orders_58 rfl ⟨_, rfl, h⟩
set_option maxRecDepth 20000 in
theorem b_X12_orders_82 {x : jX} {d : Nat} {M : jM} {P : jM → Int32 → Prop} {l2 : Int32} 
    (h : (((8 : Int32) * (M.1 0 53)) ≤ l2 → P M (M.1 0 53)) ∧ (¬ ((8 : Int32) * (M.1 0 53)) ≤ l2 → ∃ j1, j1 < 2060 ∧ (1819 : Int32) + l2 = nI j1 ∧ (∃ j2, j2 < 2060 ∧ (171 : Int32) + l2 = nI j2 ∧ (∀ M1, M1 = jrI M 5 (upd (M.1 5) j2 (M.1 5 j1)) → JW x jtbM mX12_orders (d + 1) (jI P) 82 [(0, .ref (x.2.2.2 0)), (2, .int (l2 + 1))] [] M1)))) :
    JW x jtbM mX12_orders (d + 1) (jI P) 82 [(0, .ref (x.2.2.2 0)), (2, .int l2)] [] M := by
  refine jw_iload_n (pc := 82) (j := 1) dX12_orders_82 rfl rfl ?_
  refine jw_bipush (pc := 83) (v := 8) dX12_orders_83 rfl ?_
  refine jw_aload_n (pc := 85) (j := 0) dX12_orders_85 rfl rfl ?_
  refine jw_getI (pc := 86) dX12_orders_86 sM_0 fl_X12_451 (by decide) rfl ?_
  refine jw_imul (pc := 89) dX12_orders_89 ?_
  refine jw_icmp_ge (pc := 90) (tgt := 119) dX12_orders_90 (by decide) (fun c => ?_) (fun c => ?_)
  · replace h := h.1 c
    refine jw_aload_n (pc := 119) (j := 0) dX12_orders_119 rfl rfl ?_
    refine jw_getI (pc := 120) dX12_orders_120 sM_0 fl_X12_451 (by decide) rfl ?_
    exact jw_iret (pc := 123) dX12_orders_123 rfl ⟨_, rfl, h⟩
  · replace h := h.2 c
    refine jw_aload_n (pc := 93) (j := 0) dX12_orders_93 rfl rfl ?_
    refine jw_getR (pc := 94) (r := 5) dX12_orders_94 sM_0 fl_X12_35 (by decide) rfl rfl ?_
    refine jw_sipush (pc := 97) (v := 171) dX12_orders_97 rfl ?_
    refine jw_iload_n (pc := 100) (j := 1) dX12_orders_100 rfl rfl ?_
    refine jw_iadd (pc := 101) dX12_orders_101 ?_
    refine jw_aload_n (pc := 102) (j := 0) dX12_orders_102 rfl rfl ?_
    refine jw_getR (pc := 103) (r := 5) dX12_orders_103 sM_0 fl_X12_35 (by decide) rfl rfl ?_
    refine jw_sipush (pc := 106) (v := 1819) dX12_orders_106 rfl ?_
    refine jw_iload_n (pc := 109) (j := 1) dX12_orders_109 rfl rfl ?_
    refine jw_iadd (pc := 110) dX12_orders_110 ?_
    obtain ⟨j1, hj1, ej1, h⟩ := h
    refine jw_iald (pc := 111) (j := j1) dX12_orders_111 sM_5 hj1 ej1 (by decide) ?_
    obtain ⟨j2, hj2, ej2, h⟩ := h
    refine jw_iast (pc := 112) (j := j2) dX12_orders_112 sM_5 hj2 ej2 (by decide) ?_
    replace h := h _ rfl
    generalize jrI M 5 (upd (M.1 5) j2 (M.1 5 j1)) = M1 at h ⊢
    refine jw_iinc (pc := 113) (j := 1) (u := l2 + 1) (ls' := [(2, .int (l2 + 1)), (0, .ref (x.2.2.2 0))]) dX12_orders_113 rfl rfl (by decide) rfl ?_
    refine jw_goto (pc := 116) (tgt := 82) dX12_orders_116 (by decide) ?_
    exact jw_sub [1, 0] rfl h
set_option maxRecDepth 20000 in
theorem b_X12_draw {x : jX} {d : Nat} {M : jM} {P : jM → Int32 → Prop} {a1 : Int32} 
    (h : ∀ M1, M1 = jrI M 0 (upd (M.1 0) 42 ((((M.1 0 42) * (2861 : Int32)) + (12007 : Int32)) - (((M.1 0 42) * (2861 : Int32)) + (12007 : Int32)) / (65536 : Int32) * (65536 : Int32))) → ¬ a1 = 0 ∧ (P M1 (((M1.1 0 42) / (8 : Int32)) - ((M1.1 0 42) / (8 : Int32)) / a1 * a1))) :
    JC x jtbM mX12_draw d [.ref (x.2.2.2 0), .int a1] M (jI P) := by
  refine JC.of rfl (Nat.le_of_ble_eq_true rfl) ?_
  refine jw_ls (ls' := [(0, .ref (x.2.2.2 0)), (1, .int a1)]) rfl ?_
  refine jw_aload_n (pc := 0) (j := 0) dX12_draw_0 rfl rfl ?_
  refine jw_aload_n (pc := 1) (j := 0) dX12_draw_1 rfl rfl ?_
  refine jw_getI (pc := 2) dX12_draw_2 sM_0 fl_X12_460 (by decide) rfl ?_
  refine jw_sipush (pc := 5) (v := 2861) dX12_draw_5 rfl ?_
  refine jw_imul (pc := 8) dX12_draw_8 ?_
  refine jw_sipush (pc := 9) (v := 12007) dX12_draw_9 rfl ?_
  refine jw_iadd (pc := 12) dX12_draw_12 ?_
  refine jw_ldcw (pc := 13) (v := 65536) dX12_draw_13 kc_X12_463 ?_
  refine jw_irem (pc := 16) dX12_draw_16 (by decide) ?_
  refine jw_putI (pc := 17) dX12_draw_17 sM_0 fl_X12_460 fw_12_42 (by decide) rfl ?_
  replace h := h _ rfl
  generalize jrI M 0 (upd (M.1 0) 42 ((((M.1 0 42) * (2861 : Int32)) + (12007 : Int32)) - (((M.1 0 42) * (2861 : Int32)) + (12007 : Int32)) / (65536 : Int32) * (65536 : Int32))) = M1 at h ⊢
  refine jw_aload_n (pc := 20) (j := 0) dX12_draw_20 rfl rfl ?_
  refine jw_getI (pc := 21) dX12_draw_21 sM_0 fl_X12_460 (by decide) rfl ?_
  refine jw_bipush (pc := 24) (v := 8) dX12_draw_24 rfl ?_
  refine jw_idiv (pc := 26) dX12_draw_26 (by decide) ?_
  refine jw_iload_n (pc := 27) (j := 1) dX12_draw_27 rfl rfl ?_
  obtain ⟨h0, h⟩ := h
  refine jw_irem (pc := 28) dX12_draw_28 h0 ?_
  exact jw_iret (pc := 29) dX12_draw_29 rfl ⟨_, rfl, h⟩
set_option maxRecDepth 20000 in
theorem b_X12_change {x : jX} {d : Nat} {M : jM} {P : jM → Prop} {a1 : Int32} {a2 : Int32} 
    (h : ∃ j1, j1 < 2060 ∧ (144 : Int32) + a1 = nI j1 ∧ (JC x jtbM mJ9_min_7cf53 d [.int (99 : Int32), .int ((M.1 5 j1) + a2)] M (jI fun M1 r1 => JC x jtbM mJ9_max_7cf53 d [.int (0 : Int32), .int r1] M1 (jI fun M2 r2 => ∀ M3, M3 = jrI M2 5 (upd (M2.1 5) j1 r2) → (a2 ≤ 0 → ∀ M4, M4 = jrI M3 0 (upd (M3.1 0) 45 ((M3.1 0 45) + ((M.1 5 j1) - (M3.1 5 j1)))) → P M4) ∧ (¬ a2 ≤ 0 → ∀ M5, M5 = jrI M3 0 (upd (M3.1 0) 44 ((M3.1 0 44) + ((M3.1 5 j1) - (M.1 5 j1)))) → P M5))))) :
    JC x jtbM mX12_change (d + 1) [.ref (x.2.2.2 0), .int a1, .int a2] M (jV P) := by
  refine JC.of rfl (Nat.le_of_ble_eq_true rfl) ?_
  refine jw_ls (ls' := [(0, .ref (x.2.2.2 0)), (1, .int a1), (2, .int a2)]) rfl ?_
  refine jw_aload_n (pc := 0) (j := 0) dX12_change_0 rfl rfl ?_
  refine jw_getR (pc := 1) (r := 5) dX12_change_1 sM_0 fl_X12_35 (by decide) rfl rfl ?_
  refine jw_sipush (pc := 4) (v := 144) dX12_change_4 rfl ?_
  refine jw_iload_n (pc := 7) (j := 1) dX12_change_7 rfl rfl ?_
  refine jw_iadd (pc := 8) dX12_change_8 ?_
  obtain ⟨j1, hj1, ej1, h⟩ := h
  refine jw_iald (pc := 9) (j := j1) dX12_change_9 sM_5 hj1 ej1 (by decide) ?_
  refine jw_istore_n (pc := 10) (ls' := [(3, .int (M.1 5 j1)), (0, .ref (x.2.2.2 0)), (1, .int a1), (2, .int a2)]) dX12_change_10 rfl (by decide) rfl ?_
  refine jw_aload_n (pc := 11) (j := 1) dX12_change_11 rfl rfl ?_
  refine jw_getR (pc := 12) (r := 5) dX12_change_12 sM_0 fl_X12_35 (by decide) rfl rfl ?_
  refine jw_sipush (pc := 15) (v := 144) dX12_change_15 rfl ?_
  refine jw_iload_n (pc := 18) (j := 2) dX12_change_18 rfl rfl ?_
  refine jw_iadd (pc := 19) dX12_change_19 ?_
  refine jw_iconst (pc := 20) (v := 0) dX12_change_20 rfl ?_
  refine jw_bipush (pc := 21) (v := 99) dX12_change_21 rfl ?_
  refine jw_iload_n (pc := 23) (j := 0) dX12_change_23 rfl rfl ?_
  refine jw_iload_n (pc := 24) (j := 3) dX12_change_24 rfl rfl ?_
  refine jw_iadd (pc := 25) dX12_change_25 ?_
  refine jw_callS (pc := 26) (m2 := mJ9_min_7cf53) (As := [.int (99 : Int32), .int ((M.1 5 j1) + a2)]) (st := [.int (0 : Int32), .int ((144 : Int32) + a1), .ref (x.2.2.2 5)]) dX12_change_26 gm_J9_min_7cf53 ml_X12_354 rfl (Nat.le_of_ble_eq_true rfl) (JC.mono h ?_)
  clear h
  rintro M1 _ ⟨r1, rfl, h⟩
  refine jw_st (st' := [.int r1, .int (0 : Int32), .int ((144 : Int32) + a1), .ref (x.2.2.2 5)]) rfl ?_
  refine jw_callS (pc := 29) (m2 := mJ9_max_7cf53) (As := [.int (0 : Int32), .int r1]) (st := [.int ((144 : Int32) + a1), .ref (x.2.2.2 5)]) dX12_change_29 gm_J9_max_7cf53 ml_X12_342 rfl (Nat.le_of_ble_eq_true rfl) (JC.mono h ?_)
  clear h
  rintro M2 _ ⟨r2, rfl, h⟩
  refine jw_st (st' := [.int r2, .int ((144 : Int32) + a1), .ref (x.2.2.2 5)]) rfl ?_
  refine jw_iast (pc := 32) (j := j1) dX12_change_32 sM_5 hj1 ej1 (by decide) ?_
  replace h := h _ rfl
  generalize jrI M2 5 (upd (M2.1 5) j1 r2) = M3 at h ⊢
  refine jw_iload_n (pc := 33) (j := 3) dX12_change_33 rfl rfl ?_
  refine jw_if_le (pc := 34) (tgt := 61) dX12_change_34 (by decide) (fun c => ?_) (fun c => ?_)
  · replace h := h.1 c
    refine jw_aload_n (pc := 61) (j := 1) dX12_change_61 rfl rfl ?_
    refine jw_dup (pc := 62) dX12_change_62 rfl ?_
    refine jw_getI (pc := 63) dX12_change_63 sM_0 fl_X12_467 (by decide) rfl ?_
    refine jw_iload_n (pc := 66) (j := 0) dX12_change_66 rfl rfl ?_
    refine jw_aload_n (pc := 67) (j := 1) dX12_change_67 rfl rfl ?_
    refine jw_getR (pc := 68) (r := 5) dX12_change_68 sM_0 fl_X12_35 (by decide) rfl rfl ?_
    refine jw_sipush (pc := 71) (v := 144) dX12_change_71 rfl ?_
    refine jw_iload_n (pc := 74) (j := 2) dX12_change_74 rfl rfl ?_
    refine jw_iadd (pc := 75) dX12_change_75 ?_
    refine jw_iald (pc := 76) (j := j1) dX12_change_76 sM_5 hj1 ej1 (by decide) ?_
    refine jw_isub (pc := 77) dX12_change_77 ?_
    refine jw_iadd (pc := 78) dX12_change_78 ?_
    refine jw_putI (pc := 79) dX12_change_79 sM_0 fl_X12_467 fw_12_45 (by decide) rfl ?_
    replace h := h _ rfl
    generalize jrI M3 0 (upd (M3.1 0) 45 ((M3.1 0 45) + ((M.1 5 j1) - (M3.1 5 j1)))) = M4 at h ⊢
    exact jw_vret (pc := 82) dX12_change_82 rfl ⟨rfl, h⟩
  · replace h := h.2 c
    refine jw_aload_n (pc := 37) (j := 1) dX12_change_37 rfl rfl ?_
    refine jw_dup (pc := 38) dX12_change_38 rfl ?_
    refine jw_getI (pc := 39) dX12_change_39 sM_0 fl_X12_464 (by decide) rfl ?_
    refine jw_aload_n (pc := 42) (j := 1) dX12_change_42 rfl rfl ?_
    refine jw_getR (pc := 43) (r := 5) dX12_change_43 sM_0 fl_X12_35 (by decide) rfl rfl ?_
    refine jw_sipush (pc := 46) (v := 144) dX12_change_46 rfl ?_
    refine jw_iload_n (pc := 49) (j := 2) dX12_change_49 rfl rfl ?_
    refine jw_iadd (pc := 50) dX12_change_50 ?_
    refine jw_iald (pc := 51) (j := j1) dX12_change_51 sM_5 hj1 ej1 (by decide) ?_
    refine jw_iload_n (pc := 52) (j := 0) dX12_change_52 rfl rfl ?_
    refine jw_isub (pc := 53) dX12_change_53 ?_
    refine jw_iadd (pc := 54) dX12_change_54 ?_
    refine jw_putI (pc := 55) dX12_change_55 sM_0 fl_X12_464 fw_12_44 (by decide) rfl ?_
    replace h := h _ rfl
    generalize jrI M3 0 (upd (M3.1 0) 44 ((M3.1 0 44) + ((M3.1 5 j1) - (M.1 5 j1)))) = M5 at h ⊢
    refine jw_goto (pc := 58) (tgt := 82) dX12_change_58 (by decide) ?_
    exact jw_vret (pc := 82) dX12_change_82 rfl ⟨rfl, h⟩
set_option maxRecDepth 20000 in
theorem b_X12_compares {x : jX} {d : Nat} {M : jM} {P : jM → Bool → Prop} {a1 : Int32} {a2 : Int32} 
    (h : ∃ j1, j1 < 2060 ∧ a2 + (5 : Int32) = nI j1 ∧ ((¬ (M.1 5 j1) = (60 : Int32) → (¬ (M.1 5 j1) = (62 : Int32) → ∃ j2, j2 < 2060 ∧ a2 + (6 : Int32) = nI j2 ∧ ((¬ a1 = (M.1 5 j2) → P M false) ∧ (a1 = (M.1 5 j2) → P M true))) ∧ ((M.1 5 j1) = (62 : Int32) → ∃ j3, j3 < 2060 ∧ a2 + (6 : Int32) = nI j3 ∧ ((a1 ≤ (M.1 5 j3) → P M false) ∧ (¬ a1 ≤ (M.1 5 j3) → P M true)))) ∧ ((M.1 5 j1) = (60 : Int32) → ∃ j4, j4 < 2060 ∧ a2 + (6 : Int32) = nI j4 ∧ (((M.1 5 j4) ≤ a1 → P M false) ∧ (¬ (M.1 5 j4) ≤ a1 → P M true))))) :
    JC x jtbM mX12_compares d [.ref (x.2.2.2 0), .int a1, .int a2] M (jZ P) := by
  refine JC.of rfl (Nat.le_of_ble_eq_true rfl) ?_
  refine jw_ls (ls' := [(0, .ref (x.2.2.2 0)), (1, .int a1), (2, .int a2)]) rfl ?_
  refine jw_aload_n (pc := 0) (j := 0) dX12_compares_0 rfl rfl ?_
  refine jw_getR (pc := 1) (r := 5) dX12_compares_1 sM_0 fl_X12_35 (by decide) rfl rfl ?_
  refine jw_iload_n (pc := 4) (j := 2) dX12_compares_4 rfl rfl ?_
  refine jw_iconst (pc := 5) (v := 5) dX12_compares_5 rfl ?_
  refine jw_iadd (pc := 6) dX12_compares_6 ?_
  obtain ⟨j1, hj1, ej1, h⟩ := h
  refine jw_iald (pc := 7) (j := j1) dX12_compares_7 sM_5 hj1 ej1 (by decide) ?_
  refine jw_bipush (pc := 8) (v := 60) dX12_compares_8 rfl ?_
  refine jw_icmp_ne (pc := 10) (tgt := 34) dX12_compares_10 (by decide) (fun c => ?_) (fun c => ?_)
  · replace h := h.1 c
    refine jw_aload_n (pc := 34) (j := 0) dX12_compares_34 rfl rfl ?_
    refine jw_getR (pc := 35) (r := 5) dX12_compares_35 sM_0 fl_X12_35 (by decide) rfl rfl ?_
    refine jw_iload_n (pc := 38) (j := 2) dX12_compares_38 rfl rfl ?_
    refine jw_iconst (pc := 39) (v := 5) dX12_compares_39 rfl ?_
    refine jw_iadd (pc := 40) dX12_compares_40 ?_
    refine jw_iald (pc := 41) (j := j1) dX12_compares_41 sM_5 hj1 ej1 (by decide) ?_
    refine jw_bipush (pc := 42) (v := 62) dX12_compares_42 rfl ?_
    refine jw_icmp_ne (pc := 44) (tgt := 68) dX12_compares_44 (by decide) (fun c => ?_) (fun c => ?_)
    · replace h := h.1 c
      refine jw_iload_n (pc := 68) (j := 1) dX12_compares_68 rfl rfl ?_
      refine jw_aload_n (pc := 69) (j := 0) dX12_compares_69 rfl rfl ?_
      refine jw_getR (pc := 70) (r := 5) dX12_compares_70 sM_0 fl_X12_35 (by decide) rfl rfl ?_
      refine jw_iload_n (pc := 73) (j := 2) dX12_compares_73 rfl rfl ?_
      refine jw_bipush (pc := 74) (v := 6) dX12_compares_74 rfl ?_
      refine jw_iadd (pc := 76) dX12_compares_76 ?_
      obtain ⟨j2, hj2, ej2, h⟩ := h
      refine jw_iald (pc := 77) (j := j2) dX12_compares_77 sM_5 hj2 ej2 (by decide) ?_
      refine jw_icmp_ne (pc := 78) (tgt := 85) dX12_compares_78 (by decide) (fun c => ?_) (fun c => ?_)
      · replace h := h.1 c
        refine jw_iconst (pc := 85) (v := 0) dX12_compares_85 rfl ?_
        exact jw_zret (pc := 86) dX12_compares_86 rfl (Or.inl rfl) ⟨false, rfl, h⟩
      · replace h := h.2 c
        refine jw_iconst (pc := 81) (v := 1) dX12_compares_81 rfl ?_
        refine jw_goto (pc := 82) (tgt := 86) dX12_compares_82 (by decide) ?_
        exact jw_zret (pc := 86) dX12_compares_86 rfl (Or.inr rfl) ⟨true, rfl, h⟩
    · replace h := h.2 c
      refine jw_iload_n (pc := 47) (j := 1) dX12_compares_47 rfl rfl ?_
      refine jw_aload_n (pc := 48) (j := 0) dX12_compares_48 rfl rfl ?_
      refine jw_getR (pc := 49) (r := 5) dX12_compares_49 sM_0 fl_X12_35 (by decide) rfl rfl ?_
      refine jw_iload_n (pc := 52) (j := 2) dX12_compares_52 rfl rfl ?_
      refine jw_bipush (pc := 53) (v := 6) dX12_compares_53 rfl ?_
      refine jw_iadd (pc := 55) dX12_compares_55 ?_
      obtain ⟨j3, hj3, ej3, h⟩ := h
      refine jw_iald (pc := 56) (j := j3) dX12_compares_56 sM_5 hj3 ej3 (by decide) ?_
      refine jw_icmp_le (pc := 57) (tgt := 64) dX12_compares_57 (by decide) (fun c => ?_) (fun c => ?_)
      · replace h := h.1 c
        refine jw_iconst (pc := 64) (v := 0) dX12_compares_64 rfl ?_
        refine jw_goto (pc := 65) (tgt := 86) dX12_compares_65 (by decide) ?_
        exact jw_zret (pc := 86) dX12_compares_86 rfl (Or.inl rfl) ⟨false, rfl, h⟩
      · replace h := h.2 c
        refine jw_iconst (pc := 60) (v := 1) dX12_compares_60 rfl ?_
        refine jw_goto (pc := 61) (tgt := 86) dX12_compares_61 (by decide) ?_
        exact jw_zret (pc := 86) dX12_compares_86 rfl (Or.inr rfl) ⟨true, rfl, h⟩
  · replace h := h.2 c
    refine jw_iload_n (pc := 13) (j := 1) dX12_compares_13 rfl rfl ?_
    refine jw_aload_n (pc := 14) (j := 0) dX12_compares_14 rfl rfl ?_
    refine jw_getR (pc := 15) (r := 5) dX12_compares_15 sM_0 fl_X12_35 (by decide) rfl rfl ?_
    refine jw_iload_n (pc := 18) (j := 2) dX12_compares_18 rfl rfl ?_
    refine jw_bipush (pc := 19) (v := 6) dX12_compares_19 rfl ?_
    refine jw_iadd (pc := 21) dX12_compares_21 ?_
    obtain ⟨j4, hj4, ej4, h⟩ := h
    refine jw_iald (pc := 22) (j := j4) dX12_compares_22 sM_5 hj4 ej4 (by decide) ?_
    refine jw_icmp_ge (pc := 23) (tgt := 30) dX12_compares_23 (by decide) (fun c => ?_) (fun c => ?_)
    · replace h := h.1 c
      refine jw_iconst (pc := 30) (v := 0) dX12_compares_30 rfl ?_
      refine jw_goto (pc := 31) (tgt := 86) dX12_compares_31 (by decide) ?_
      exact jw_zret (pc := 86) dX12_compares_86 rfl (Or.inl rfl) ⟨false, rfl, h⟩
    · replace h := h.2 c
      refine jw_iconst (pc := 26) (v := 1) dX12_compares_26 rfl ?_
      refine jw_goto (pc := 27) (tgt := 86) dX12_compares_27 (by decide) ?_
      exact jw_zret (pc := 86) dX12_compares_86 rfl (Or.inr rfl) ⟨true, rfl, h⟩
set_option maxRecDepth 20000 in
theorem b_X12_seesSame {x : jX} {d : Nat} {M : jM} {P : jM → Bool → Prop} {a1 : Int32} 
    (h : JC x jtbM mX12_isVillage d [.ref (x.2.2.2 0), .int a1] M (jZ fun M1 b1 => (b1 = false → P M1 false) ∧ (b1 = true → ∃ j1, j1 < 2060 ∧ (84 : Int32) + a1 = nI j1 ∧ ((¬ (M1.1 5 j1) = 0 → JW x jtbM mX12_seesSame (d + 1) (jZ P) 24 [(0, .ref (x.2.2.2 0)), (1, .int a1), (2, .int (0 : Int32))] [] M1) ∧ ((M1.1 5 j1) = 0 → P M1 false))))) :
    JC x jtbM mX12_seesSame (d + 1) [.ref (x.2.2.2 0), .int a1] M (jZ P) := by
  refine JC.of rfl (Nat.le_of_ble_eq_true rfl) ?_
  refine jw_ls (ls' := [(0, .ref (x.2.2.2 0)), (1, .int a1)]) rfl ?_
  refine jw_aload_n (pc := 0) (j := 0) dX12_seesSame_0 rfl rfl ?_
  refine jw_iload_n (pc := 1) (j := 1) dX12_seesSame_1 rfl rfl ?_
  refine jw_callV (pc := 2) (m2 := mX12_isVillage) (As := [.int a1]) (st := []) dX12_seesSame_2 sM_0 (by decide) rfl rfl gm_X12_isVillage ml_X12_308 rfl (Nat.le_of_ble_eq_true rfl) (JC.mono h ?_)
  clear h
  rintro M1 _ ⟨b1, rfl, h⟩
  refine jw_st (st' := [.int (jb b1)]) rfl ?_
  refine jw_if_eq (pc := 5) (tgt := 20) dX12_seesSame_5 (by decide) (fun c => ?_) (fun c => ?_)
  · replace h := h.1 ((jb_0 _).mp c)
    refine jw_iconst (pc := 20) (v := 0) dX12_seesSame_20 rfl ?_
    exact jw_zret (pc := 21) dX12_seesSame_21 rfl (Or.inl rfl) ⟨false, rfl, h⟩
  · replace h := h.2 (jb_ne c)
    refine jw_aload_n (pc := 8) (j := 0) dX12_seesSame_8 rfl rfl ?_
    refine jw_getR (pc := 9) (r := 5) dX12_seesSame_9 sM_0 fl_X12_35 (by decide) rfl rfl ?_
    refine jw_bipush (pc := 12) (v := 84) dX12_seesSame_12 rfl ?_
    refine jw_iload_n (pc := 14) (j := 1) dX12_seesSame_14 rfl rfl ?_
    refine jw_iadd (pc := 15) dX12_seesSame_15 ?_
    obtain ⟨j1, hj1, ej1, h⟩ := h
    refine jw_iald (pc := 16) (j := j1) dX12_seesSame_16 sM_5 hj1 ej1 (by decide) ?_
    refine jw_if_ne (pc := 17) (tgt := 22) dX12_seesSame_17 (by decide) (fun c => ?_) (fun c => ?_)
    · replace h := h.1 c
      refine jw_iconst (pc := 22) (v := 0) dX12_seesSame_22 rfl ?_
      refine jw_istore_n (pc := 23) (ls' := [(2, .int (0 : Int32)), (0, .ref (x.2.2.2 0)), (1, .int a1)]) dX12_seesSame_23 rfl (by decide) rfl ?_
      exact jw_sub [1, 2, 0] rfl h
    · replace h := h.2 c
      refine jw_iconst (pc := 20) (v := 0) dX12_seesSame_20 rfl ?_
      exact jw_zret (pc := 21) dX12_seesSame_21 rfl (Or.inl rfl) ⟨false, rfl, h⟩
set_option maxRecDepth 20000 in
theorem b_X12_seesSame_24 {x : jX} {d : Nat} {M : jM} {P : jM → Bool → Prop} {l1 : Int32} {l2 : Int32} 
    (h : JC x jtbM mX12_strips d [.ref (x.2.2.2 0), .int l1] M (jI fun M1 r1 => (r1 ≤ l2 → P M1 true) ∧ (¬ r1 ≤ l2 → ∃ j1, j1 < 2060 ∧ (78 : Int32) + l1 = nI j1 ∧ (JC x jtbM mX12_seenFrom d [.ref (x.2.2.2 0), .int (M1.1 5 j1), .int l2] M1 (jI fun M2 r2 => ∃ j2, j2 < 2060 ∧ ((90 : Int32) + ((9 : Int32) * l1)) + l2 = nI j2 ∧ ((r2 = (M2.1 5 j2) → JW x jtbM mX12_seesSame (d + 1) (jZ P) 24 [(0, .ref (x.2.2.2 0)), (1, .int l1), (2, .int (l2 + 1))] [] M2) ∧ (¬ r2 = (M2.1 5 j2) → P M2 false))))))) :
    JW x jtbM mX12_seesSame (d + 1) (jZ P) 24 [(0, .ref (x.2.2.2 0)), (1, .int l1), (2, .int l2)] [] M := by
  refine jw_iload_n (pc := 24) (j := 2) dX12_seesSame_24 rfl rfl ?_
  refine jw_aload_n (pc := 25) (j := 0) dX12_seesSame_25 rfl rfl ?_
  refine jw_iload_n (pc := 26) (j := 1) dX12_seesSame_26 rfl rfl ?_
  refine jw_callV (pc := 27) (m2 := mX12_strips) (As := [.int l1]) (st := [.int l2]) dX12_seesSame_27 sM_0 (by decide) rfl rfl gm_X12_strips ml_X12_311 rfl (Nat.le_of_ble_eq_true rfl) (JC.mono h ?_)
  clear h
  rintro M1 _ ⟨r1, rfl, h⟩
  refine jw_st (st' := [.int r1, .int l2]) rfl ?_
  refine jw_icmp_ge (pc := 30) (tgt := 72) dX12_seesSame_30 (by decide) (fun c => ?_) (fun c => ?_)
  · replace h := h.1 c
    refine jw_iconst (pc := 72) (v := 1) dX12_seesSame_72 rfl ?_
    exact jw_zret (pc := 73) dX12_seesSame_73 rfl (Or.inr rfl) ⟨true, rfl, h⟩
  · replace h := h.2 c
    refine jw_aload_n (pc := 33) (j := 0) dX12_seesSame_33 rfl rfl ?_
    refine jw_aload_n (pc := 34) (j := 0) dX12_seesSame_34 rfl rfl ?_
    refine jw_getR (pc := 35) (r := 5) dX12_seesSame_35 sM_0 fl_X12_35 (by decide) rfl rfl ?_
    refine jw_bipush (pc := 38) (v := 78) dX12_seesSame_38 rfl ?_
    refine jw_iload_n (pc := 40) (j := 1) dX12_seesSame_40 rfl rfl ?_
    refine jw_iadd (pc := 41) dX12_seesSame_41 ?_
    obtain ⟨j1, hj1, ej1, h⟩ := h
    refine jw_iald (pc := 42) (j := j1) dX12_seesSame_42 sM_5 hj1 ej1 (by decide) ?_
    refine jw_iload_n (pc := 43) (j := 2) dX12_seesSame_43 rfl rfl ?_
    refine jw_callV (pc := 44) (m2 := mX12_seenFrom) (As := [.int (M1.1 5 j1), .int l2]) (st := []) dX12_seesSame_44 sM_0 (by decide) rfl rfl gm_X12_seenFrom ml_X12_345 rfl (Nat.le_of_ble_eq_true rfl) (JC.mono h ?_)
    clear h
    rintro M2 _ ⟨r2, rfl, h⟩
    refine jw_st (st' := [.int r2]) rfl ?_
    refine jw_aload_n (pc := 47) (j := 0) dX12_seesSame_47 rfl rfl ?_
    refine jw_getR (pc := 48) (r := 5) dX12_seesSame_48 sM_0 fl_X12_35 (by decide) rfl rfl ?_
    refine jw_bipush (pc := 51) (v := 90) dX12_seesSame_51 rfl ?_
    refine jw_bipush (pc := 53) (v := 9) dX12_seesSame_53 rfl ?_
    refine jw_iload_n (pc := 55) (j := 1) dX12_seesSame_55 rfl rfl ?_
    refine jw_imul (pc := 56) dX12_seesSame_56 ?_
    refine jw_iadd (pc := 57) dX12_seesSame_57 ?_
    refine jw_iload_n (pc := 58) (j := 2) dX12_seesSame_58 rfl rfl ?_
    refine jw_iadd (pc := 59) dX12_seesSame_59 ?_
    obtain ⟨j2, hj2, ej2, h⟩ := h
    refine jw_iald (pc := 60) (j := j2) dX12_seesSame_60 sM_5 hj2 ej2 (by decide) ?_
    refine jw_icmp_eq (pc := 61) (tgt := 66) dX12_seesSame_61 (by decide) (fun c => ?_) (fun c => ?_)
    · replace h := h.1 c
      refine jw_iinc (pc := 66) (j := 2) (u := l2 + 1) (ls' := [(2, .int (l2 + 1)), (0, .ref (x.2.2.2 0)), (1, .int l1)]) dX12_seesSame_66 rfl rfl (by decide) rfl ?_
      refine jw_goto (pc := 69) (tgt := 24) dX12_seesSame_69 (by decide) ?_
      exact jw_sub [1, 2, 0] rfl h
    · replace h := h.2 c
      refine jw_iconst (pc := 64) (v := 0) dX12_seesSame_64 rfl ?_
      exact jw_zret (pc := 65) dX12_seesSame_65 rfl (Or.inl rfl) ⟨false, rfl, h⟩
set_option maxRecDepth 20000 in
theorem b_X12_cellOf {x : jX} {d : Nat} {M : jM} {P : jM → Int32 → Prop} {a1 : Int32} 
    (h : ∃ j1, j1 < 2060 ∧ a1 + (1 : Int32) = nI j1 ∧ (((M.1 5 0) ≤ (M.1 5 j1) → P M (-1 : Int32)) ∧ (¬ (M.1 5 0) ≤ (M.1 5 j1) → ∃ j2, j2 < 2060 ∧ a1 + (2 : Int32) = nI j2 ∧ (((M.1 5 1) ≤ (M.1 5 j2) → P M (-1 : Int32)) ∧ (¬ (M.1 5 1) ≤ (M.1 5 j2) → P M (((M.1 5 j2) * (M.1 5 0)) + (M.1 5 j1))))))) :
    JC x jtbM mX12_cellOf d [.ref (x.2.2.2 0), .int a1] M (jI P) := by
  refine JC.of rfl (Nat.le_of_ble_eq_true rfl) ?_
  refine jw_ls (ls' := [(0, .ref (x.2.2.2 0)), (1, .int a1)]) rfl ?_
  refine jw_aload_n (pc := 0) (j := 0) dX12_cellOf_0 rfl rfl ?_
  refine jw_getR (pc := 1) (r := 5) dX12_cellOf_1 sM_0 fl_X12_35 (by decide) rfl rfl ?_
  refine jw_iload_n (pc := 4) (j := 1) dX12_cellOf_4 rfl rfl ?_
  refine jw_iconst (pc := 5) (v := 1) dX12_cellOf_5 rfl ?_
  refine jw_iadd (pc := 6) dX12_cellOf_6 ?_
  obtain ⟨j1, hj1, ej1, h⟩ := h
  refine jw_iald (pc := 7) (j := j1) dX12_cellOf_7 sM_5 hj1 ej1 (by decide) ?_
  refine jw_aload_n (pc := 8) (j := 0) dX12_cellOf_8 rfl rfl ?_
  refine jw_getR (pc := 9) (r := 5) dX12_cellOf_9 sM_0 fl_X12_35 (by decide) rfl rfl ?_
  refine jw_iconst (pc := 12) (v := 0) dX12_cellOf_12 rfl ?_
  refine jw_iald (pc := 13) (j := 0) dX12_cellOf_13 sM_5 (by decide) rfl (by decide) ?_
  refine jw_icmp_ge (pc := 14) (tgt := 61) dX12_cellOf_14 (by decide) (fun c => ?_) (fun c => ?_)
  · replace h := h.1 c
    refine jw_iconst (pc := 61) (v := (-1)) dX12_cellOf_61 rfl ?_
    exact jw_iret (pc := 62) dX12_cellOf_62 rfl ⟨_, rfl, h⟩
  · replace h := h.2 c
    refine jw_aload_n (pc := 17) (j := 0) dX12_cellOf_17 rfl rfl ?_
    refine jw_getR (pc := 18) (r := 5) dX12_cellOf_18 sM_0 fl_X12_35 (by decide) rfl rfl ?_
    refine jw_iload_n (pc := 21) (j := 1) dX12_cellOf_21 rfl rfl ?_
    refine jw_iconst (pc := 22) (v := 2) dX12_cellOf_22 rfl ?_
    refine jw_iadd (pc := 23) dX12_cellOf_23 ?_
    obtain ⟨j2, hj2, ej2, h⟩ := h
    refine jw_iald (pc := 24) (j := j2) dX12_cellOf_24 sM_5 hj2 ej2 (by decide) ?_
    refine jw_aload_n (pc := 25) (j := 0) dX12_cellOf_25 rfl rfl ?_
    refine jw_getR (pc := 26) (r := 5) dX12_cellOf_26 sM_0 fl_X12_35 (by decide) rfl rfl ?_
    refine jw_iconst (pc := 29) (v := 1) dX12_cellOf_29 rfl ?_
    refine jw_iald (pc := 30) (j := 1) dX12_cellOf_30 sM_5 (by decide) rfl (by decide) ?_
    refine jw_icmp_ge (pc := 31) (tgt := 61) dX12_cellOf_31 (by decide) (fun c => ?_) (fun c => ?_)
    · replace h := h.1 c
      refine jw_iconst (pc := 61) (v := (-1)) dX12_cellOf_61 rfl ?_
      exact jw_iret (pc := 62) dX12_cellOf_62 rfl ⟨_, rfl, h⟩
    · replace h := h.2 c
      refine jw_aload_n (pc := 34) (j := 0) dX12_cellOf_34 rfl rfl ?_
      refine jw_getR (pc := 35) (r := 5) dX12_cellOf_35 sM_0 fl_X12_35 (by decide) rfl rfl ?_
      refine jw_iload_n (pc := 38) (j := 1) dX12_cellOf_38 rfl rfl ?_
      refine jw_iconst (pc := 39) (v := 2) dX12_cellOf_39 rfl ?_
      refine jw_iadd (pc := 40) dX12_cellOf_40 ?_
      refine jw_iald (pc := 41) (j := j2) dX12_cellOf_41 sM_5 hj2 ej2 (by decide) ?_
      refine jw_aload_n (pc := 42) (j := 0) dX12_cellOf_42 rfl rfl ?_
      refine jw_getR (pc := 43) (r := 5) dX12_cellOf_43 sM_0 fl_X12_35 (by decide) rfl rfl ?_
      refine jw_iconst (pc := 46) (v := 0) dX12_cellOf_46 rfl ?_
      refine jw_iald (pc := 47) (j := 0) dX12_cellOf_47 sM_5 (by decide) rfl (by decide) ?_
      refine jw_imul (pc := 48) dX12_cellOf_48 ?_
      refine jw_aload_n (pc := 49) (j := 0) dX12_cellOf_49 rfl rfl ?_
      refine jw_getR (pc := 50) (r := 5) dX12_cellOf_50 sM_0 fl_X12_35 (by decide) rfl rfl ?_
      refine jw_iload_n (pc := 53) (j := 1) dX12_cellOf_53 rfl rfl ?_
      refine jw_iconst (pc := 54) (v := 1) dX12_cellOf_54 rfl ?_
      refine jw_iadd (pc := 55) dX12_cellOf_55 ?_
      refine jw_iald (pc := 56) (j := j1) dX12_cellOf_56 sM_5 hj1 ej1 (by decide) ?_
      refine jw_iadd (pc := 57) dX12_cellOf_57 ?_
      refine jw_goto (pc := 58) (tgt := 62) dX12_cellOf_58 (by decide) ?_
      exact jw_iret (pc := 62) dX12_cellOf_62 rfl ⟨_, rfl, h⟩
set_option maxRecDepth 20000 in
theorem b_X12_isSo {x : jX} {d : Nat} {M : jM} {P : jM → Bool → Prop} {a1 : Int32} 
    (h : ∃ j1, j1 < 2060 ∧ a1 + (4 : Int32) = nI j1 ∧ ((¬ (M.1 5 j1) = 0 → (¬ (M.1 5 j1) = (1 : Int32) → (¬ (M.1 5 j1) = (2 : Int32) → JC x jtbM mX12_stoneNow d [.ref (x.2.2.2 0)] M (jI fun M1 r1 => JC x jtbM mX12_compares d [.ref (x.2.2.2 0), .int r1, .int a1] M1 (jZ fun M2 b1 => P M2 b1))) ∧ ((M.1 5 j1) = (2 : Int32) → ∃ j2, j2 < 2060 ∧ a1 + (1 : Int32) = nI j2 ∧ (JC x jtbM mX12_seesSame d [.ref (x.2.2.2 0), .int (M.1 5 j2)] M (jZ fun M3 b2 => P M3 b2)))) ∧ ((M.1 5 j1) = (1 : Int32) → ∃ j3, j3 < 2060 ∧ a1 + (1 : Int32) = nI j3 ∧ (∃ j4, j4 < 2060 ∧ a1 + (2 : Int32) = nI j4 ∧ (JC x jtbM mX12_isStrip d [.ref (x.2.2.2 0), .int (M.1 5 j3), .int (M.1 5 j4)] M (jZ fun M4 b3 => (b3 = false → P M4 false) ∧ (b3 = true → ∃ j5, j5 < 2060 ∧ (78 : Int32) + (M4.1 5 j3) = nI j5 ∧ (JC x jtbM mX12_seenFrom d [.ref (x.2.2.2 0), .int (M4.1 5 j5), .int (M4.1 5 j4)] M4 (jI fun M5 r2 => JC x jtbM mX12_compares d [.ref (x.2.2.2 0), .int r2, .int a1] M5 (jZ fun M6 b4 => (b4 = false → P M6 false) ∧ (b4 = true → P M6 true)))))))))) ∧ ((M.1 5 j1) = 0 → JC x jtbM mX12_cellOf d [.ref (x.2.2.2 0), .int a1] M (jI fun M7 r3 => (r3 < 0 → P M7 false) ∧ (¬ r3 < 0 → JC x jtbM mX12_cellOf d [.ref (x.2.2.2 0), .int a1] M7 (jI fun M8 r4 => ∃ j6, j6 < 2060 ∧ (144 : Int32) + r4 = nI j6 ∧ (JC x jtbM mX12_compares d [.ref (x.2.2.2 0), .int (M8.1 5 j6), .int a1] M8 (jZ fun M9 b5 => (b5 = false → P M9 false) ∧ (b5 = true → P M9 true))))))))) :
    JC x jtbM mX12_isSo (d + 1) [.ref (x.2.2.2 0), .int a1] M (jZ P) := by
  refine JC.of rfl (Nat.le_of_ble_eq_true rfl) ?_
  refine jw_ls (ls' := [(0, .ref (x.2.2.2 0)), (1, .int a1)]) rfl ?_
  refine jw_aload_n (pc := 0) (j := 0) dX12_isSo_0 rfl rfl ?_
  refine jw_getR (pc := 1) (r := 5) dX12_isSo_1 sM_0 fl_X12_35 (by decide) rfl rfl ?_
  refine jw_iload_n (pc := 4) (j := 1) dX12_isSo_4 rfl rfl ?_
  refine jw_iconst (pc := 5) (v := 4) dX12_isSo_5 rfl ?_
  refine jw_iadd (pc := 6) dX12_isSo_6 ?_
  obtain ⟨j1, hj1, ej1, h⟩ := h
  refine jw_iald (pc := 7) (j := j1) dX12_isSo_7 sM_5 hj1 ej1 (by decide) ?_
  refine jw_istore_n (pc := 8) (ls' := [(2, .int (M.1 5 j1)), (0, .ref (x.2.2.2 0)), (1, .int a1)]) dX12_isSo_8 rfl (by decide) rfl ?_
  refine jw_iload_n (pc := 9) (j := 0) dX12_isSo_9 rfl rfl ?_
  refine jw_if_ne (pc := 10) (tgt := 49) dX12_isSo_10 (by decide) (fun c => ?_) (fun c => ?_)
  · replace h := h.1 c
    refine jw_iload_n (pc := 49) (j := 0) dX12_isSo_49 rfl rfl ?_
    refine jw_iconst (pc := 50) (v := 1) dX12_isSo_50 rfl ?_
    refine jw_icmp_ne (pc := 51) (tgt := 119) dX12_isSo_51 (by decide) (fun c => ?_) (fun c => ?_)
    · replace h := h.1 c
      refine jw_iload_n (pc := 119) (j := 0) dX12_isSo_119 rfl rfl ?_
      refine jw_iconst (pc := 120) (v := 2) dX12_isSo_120 rfl ?_
      refine jw_icmp_ne (pc := 121) (tgt := 137) dX12_isSo_121 (by decide) (fun c => ?_) (fun c => ?_)
      · replace h := h.1 c
        refine jw_aload_n (pc := 137) (j := 1) dX12_isSo_137 rfl rfl ?_
        refine jw_aload_n (pc := 138) (j := 1) dX12_isSo_138 rfl rfl ?_
        refine jw_callV (pc := 139) (m2 := mX12_stoneNow) (As := []) (st := [.ref (x.2.2.2 0)]) dX12_isSo_139 sM_0 (by decide) rfl rfl gm_X12_stoneNow ml_X12_348 rfl (Nat.le_of_ble_eq_true rfl) (JC.mono h ?_)
        clear h
        rintro M1 _ ⟨r1, rfl, h⟩
        refine jw_st (st' := [.int r1, .ref (x.2.2.2 0)]) rfl ?_
        refine jw_iload_n (pc := 142) (j := 2) dX12_isSo_142 rfl rfl ?_
        refine jw_callV (pc := 143) (m2 := mX12_compares) (As := [.int r1, .int a1]) (st := []) dX12_isSo_143 sM_0 (by decide) rfl rfl gm_X12_compares ml_X12_473 rfl (Nat.le_of_ble_eq_true rfl) (JC.mono h ?_)
        clear h
        rintro M2 _ ⟨b1, rfl, h⟩
        refine jw_st (st' := [.int (jb b1)]) rfl ?_
        exact jw_zret (pc := 146) dX12_isSo_146 rfl (jb_01 _) ⟨_, rfl, h⟩
      · replace h := h.2 c
        refine jw_aload_n (pc := 124) (j := 1) dX12_isSo_124 rfl rfl ?_
        refine jw_aload_n (pc := 125) (j := 1) dX12_isSo_125 rfl rfl ?_
        refine jw_getR (pc := 126) (r := 5) dX12_isSo_126 sM_0 fl_X12_35 (by decide) rfl rfl ?_
        refine jw_iload_n (pc := 129) (j := 2) dX12_isSo_129 rfl rfl ?_
        refine jw_iconst (pc := 130) (v := 1) dX12_isSo_130 rfl ?_
        refine jw_iadd (pc := 131) dX12_isSo_131 ?_
        obtain ⟨j2, hj2, ej2, h⟩ := h
        refine jw_iald (pc := 132) (j := j2) dX12_isSo_132 sM_5 hj2 ej2 (by decide) ?_
        refine jw_callV (pc := 133) (m2 := mX12_seesSame) (As := [.int (M.1 5 j2)]) (st := []) dX12_isSo_133 sM_0 (by decide) rfl rfl gm_X12_seesSame ml_X12_476 rfl (Nat.le_of_ble_eq_true rfl) (JC.mono h ?_)
        clear h
        rintro M3 _ ⟨b2, rfl, h⟩
        refine jw_st (st' := [.int (jb b2)]) rfl ?_
        exact jw_zret (pc := 136) dX12_isSo_136 rfl (jb_01 _) ⟨_, rfl, h⟩
    · replace h := h.2 c
      refine jw_aload_n (pc := 54) (j := 1) dX12_isSo_54 rfl rfl ?_
      refine jw_aload_n (pc := 55) (j := 1) dX12_isSo_55 rfl rfl ?_
      refine jw_getR (pc := 56) (r := 5) dX12_isSo_56 sM_0 fl_X12_35 (by decide) rfl rfl ?_
      refine jw_iload_n (pc := 59) (j := 2) dX12_isSo_59 rfl rfl ?_
      refine jw_iconst (pc := 60) (v := 1) dX12_isSo_60 rfl ?_
      refine jw_iadd (pc := 61) dX12_isSo_61 ?_
      obtain ⟨j3, hj3, ej3, h⟩ := h
      refine jw_iald (pc := 62) (j := j3) dX12_isSo_62 sM_5 hj3 ej3 (by decide) ?_
      refine jw_aload_n (pc := 63) (j := 1) dX12_isSo_63 rfl rfl ?_
      refine jw_getR (pc := 64) (r := 5) dX12_isSo_64 sM_0 fl_X12_35 (by decide) rfl rfl ?_
      refine jw_iload_n (pc := 67) (j := 2) dX12_isSo_67 rfl rfl ?_
      refine jw_iconst (pc := 68) (v := 2) dX12_isSo_68 rfl ?_
      refine jw_iadd (pc := 69) dX12_isSo_69 ?_
      obtain ⟨j4, hj4, ej4, h⟩ := h
      refine jw_iald (pc := 70) (j := j4) dX12_isSo_70 sM_5 hj4 ej4 (by decide) ?_
      refine jw_callV (pc := 71) (m2 := mX12_isStrip) (As := [.int (M.1 5 j3), .int (M.1 5 j4)]) (st := []) dX12_isSo_71 sM_0 (by decide) rfl rfl gm_X12_isStrip ml_X12_322 rfl (Nat.le_of_ble_eq_true rfl) (JC.mono h ?_)
      clear h
      rintro M4 _ ⟨b3, rfl, h⟩
      refine jw_st (st' := [.int (jb b3)]) rfl ?_
      refine jw_if_eq (pc := 74) (tgt := 117) dX12_isSo_74 (by decide) (fun c => ?_) (fun c => ?_)
      · replace h := h.1 ((jb_0 _).mp c)
        refine jw_iconst (pc := 117) (v := 0) dX12_isSo_117 rfl ?_
        exact jw_zret (pc := 118) dX12_isSo_118 rfl (Or.inl rfl) ⟨false, rfl, h⟩
      · replace h := h.2 (jb_ne c)
        refine jw_aload_n (pc := 77) (j := 1) dX12_isSo_77 rfl rfl ?_
        refine jw_aload_n (pc := 78) (j := 1) dX12_isSo_78 rfl rfl ?_
        refine jw_aload_n (pc := 79) (j := 1) dX12_isSo_79 rfl rfl ?_
        refine jw_getR (pc := 80) (r := 5) dX12_isSo_80 sM_0 fl_X12_35 (by decide) rfl rfl ?_
        refine jw_bipush (pc := 83) (v := 78) dX12_isSo_83 rfl ?_
        refine jw_aload_n (pc := 85) (j := 1) dX12_isSo_85 rfl rfl ?_
        refine jw_getR (pc := 86) (r := 5) dX12_isSo_86 sM_0 fl_X12_35 (by decide) rfl rfl ?_
        refine jw_iload_n (pc := 89) (j := 2) dX12_isSo_89 rfl rfl ?_
        refine jw_iconst (pc := 90) (v := 1) dX12_isSo_90 rfl ?_
        refine jw_iadd (pc := 91) dX12_isSo_91 ?_
        refine jw_iald (pc := 92) (j := j3) dX12_isSo_92 sM_5 hj3 ej3 (by decide) ?_
        refine jw_iadd (pc := 93) dX12_isSo_93 ?_
        obtain ⟨j5, hj5, ej5, h⟩ := h
        refine jw_iald (pc := 94) (j := j5) dX12_isSo_94 sM_5 hj5 ej5 (by decide) ?_
        refine jw_aload_n (pc := 95) (j := 1) dX12_isSo_95 rfl rfl ?_
        refine jw_getR (pc := 96) (r := 5) dX12_isSo_96 sM_0 fl_X12_35 (by decide) rfl rfl ?_
        refine jw_iload_n (pc := 99) (j := 2) dX12_isSo_99 rfl rfl ?_
        refine jw_iconst (pc := 100) (v := 2) dX12_isSo_100 rfl ?_
        refine jw_iadd (pc := 101) dX12_isSo_101 ?_
        refine jw_iald (pc := 102) (j := j4) dX12_isSo_102 sM_5 hj4 ej4 (by decide) ?_
        refine jw_callV (pc := 103) (m2 := mX12_seenFrom) (As := [.int (M4.1 5 j5), .int (M4.1 5 j4)]) (st := [.ref (x.2.2.2 0)]) dX12_isSo_103 sM_0 (by decide) rfl rfl gm_X12_seenFrom ml_X12_345 rfl (Nat.le_of_ble_eq_true rfl) (JC.mono h ?_)
        clear h
        rintro M5 _ ⟨r2, rfl, h⟩
        refine jw_st (st' := [.int r2, .ref (x.2.2.2 0)]) rfl ?_
        refine jw_iload_n (pc := 106) (j := 2) dX12_isSo_106 rfl rfl ?_
        refine jw_callV (pc := 107) (m2 := mX12_compares) (As := [.int r2, .int a1]) (st := []) dX12_isSo_107 sM_0 (by decide) rfl rfl gm_X12_compares ml_X12_473 rfl (Nat.le_of_ble_eq_true rfl) (JC.mono h ?_)
        clear h
        rintro M6 _ ⟨b4, rfl, h⟩
        refine jw_st (st' := [.int (jb b4)]) rfl ?_
        refine jw_if_eq (pc := 110) (tgt := 117) dX12_isSo_110 (by decide) (fun c => ?_) (fun c => ?_)
        · replace h := h.1 ((jb_0 _).mp c)
          refine jw_iconst (pc := 117) (v := 0) dX12_isSo_117 rfl ?_
          exact jw_zret (pc := 118) dX12_isSo_118 rfl (Or.inl rfl) ⟨false, rfl, h⟩
        · replace h := h.2 (jb_ne c)
          refine jw_iconst (pc := 113) (v := 1) dX12_isSo_113 rfl ?_
          refine jw_goto (pc := 114) (tgt := 118) dX12_isSo_114 (by decide) ?_
          exact jw_zret (pc := 118) dX12_isSo_118 rfl (Or.inr rfl) ⟨true, rfl, h⟩
  · replace h := h.2 c
    refine jw_aload_n (pc := 13) (j := 1) dX12_isSo_13 rfl rfl ?_
    refine jw_iload_n (pc := 14) (j := 2) dX12_isSo_14 rfl rfl ?_
    refine jw_callV (pc := 15) (m2 := mX12_cellOf) (As := [.int a1]) (st := []) dX12_isSo_15 sM_0 (by decide) rfl rfl gm_X12_cellOf ml_X12_470 rfl (Nat.le_of_ble_eq_true rfl) (JC.mono h ?_)
    clear h
    rintro M7 _ ⟨r3, rfl, h⟩
    refine jw_st (st' := [.int r3]) rfl ?_
    refine jw_if_lt (pc := 18) (tgt := 47) dX12_isSo_18 (by decide) (fun c => ?_) (fun c => ?_)
    · replace h := h.1 c
      refine jw_iconst (pc := 47) (v := 0) dX12_isSo_47 rfl ?_
      exact jw_zret (pc := 48) dX12_isSo_48 rfl (Or.inl rfl) ⟨false, rfl, h⟩
    · replace h := h.2 c
      refine jw_aload_n (pc := 21) (j := 1) dX12_isSo_21 rfl rfl ?_
      refine jw_aload_n (pc := 22) (j := 1) dX12_isSo_22 rfl rfl ?_
      refine jw_getR (pc := 23) (r := 5) dX12_isSo_23 sM_0 fl_X12_35 (by decide) rfl rfl ?_
      refine jw_sipush (pc := 26) (v := 144) dX12_isSo_26 rfl ?_
      refine jw_aload_n (pc := 29) (j := 1) dX12_isSo_29 rfl rfl ?_
      refine jw_iload_n (pc := 30) (j := 2) dX12_isSo_30 rfl rfl ?_
      refine jw_callV (pc := 31) (m2 := mX12_cellOf) (As := [.int a1]) (st := [.int (144 : Int32), .ref (x.2.2.2 5), .ref (x.2.2.2 0)]) dX12_isSo_31 sM_0 (by decide) rfl rfl gm_X12_cellOf ml_X12_470 rfl (Nat.le_of_ble_eq_true rfl) (JC.mono h ?_)
      clear h
      rintro M8 _ ⟨r4, rfl, h⟩
      refine jw_st (st' := [.int r4, .int (144 : Int32), .ref (x.2.2.2 5), .ref (x.2.2.2 0)]) rfl ?_
      refine jw_iadd (pc := 34) dX12_isSo_34 ?_
      obtain ⟨j6, hj6, ej6, h⟩ := h
      refine jw_iald (pc := 35) (j := j6) dX12_isSo_35 sM_5 hj6 ej6 (by decide) ?_
      refine jw_iload_n (pc := 36) (j := 2) dX12_isSo_36 rfl rfl ?_
      refine jw_callV (pc := 37) (m2 := mX12_compares) (As := [.int (M8.1 5 j6), .int a1]) (st := []) dX12_isSo_37 sM_0 (by decide) rfl rfl gm_X12_compares ml_X12_473 rfl (Nat.le_of_ble_eq_true rfl) (JC.mono h ?_)
      clear h
      rintro M9 _ ⟨b5, rfl, h⟩
      refine jw_st (st' := [.int (jb b5)]) rfl ?_
      refine jw_if_eq (pc := 40) (tgt := 47) dX12_isSo_40 (by decide) (fun c => ?_) (fun c => ?_)
      · replace h := h.1 ((jb_0 _).mp c)
        refine jw_iconst (pc := 47) (v := 0) dX12_isSo_47 rfl ?_
        exact jw_zret (pc := 48) dX12_isSo_48 rfl (Or.inl rfl) ⟨false, rfl, h⟩
      · replace h := h.2 (jb_ne c)
        refine jw_iconst (pc := 43) (v := 1) dX12_isSo_43 rfl ?_
        refine jw_goto (pc := 44) (tgt := 48) dX12_isSo_44 (by decide) ?_
        exact jw_zret (pc := 48) dX12_isSo_48 rfl (Or.inr rfl) ⟨true, rfl, h⟩
set_option maxRecDepth 20000 in
theorem b_X12_doOne {x : jX} {d : Nat} {M : jM} {P : jM → Prop} {a1 : Int32} 
    (h : (¬ (M.1 0 43) = (400 : Int32) → ∀ M1, M1 = jrI M 0 (upd (M.1 0) 43 ((M.1 0 43) + (1 : Int32))) → ∃ j1, j1 < 2060 ∧ (171 : Int32) + ((8 : Int32) * a1) = nI j1 ∧ (((M1.1 5 j1) = 0 → JW x jtbM mX12_doOne (d + 1) (jV P) 56 [(0, .ref (x.2.2.2 0)), (2, .int ((171 : Int32) + ((8 : Int32) * a1))), (3, .int (M1.1 5 j1))] [] M1) ∧ (¬ (M1.1 5 j1) = 0 → (¬ (M1.1 5 j1) = (1 : Int32) → (¬ (M1.1 5 j1) = (2 : Int32) → (¬ (M1.1 5 j1) = (5 : Int32) → (¬ (M1.1 5 j1) = (3 : Int32) → JW x jtbM mX12_doOne (d + 1) (jV P) 198 [(0, .ref (x.2.2.2 0)), (1, .int a1), (2, .int ((171 : Int32) + ((8 : Int32) * a1))), (4, .int (0 : Int32))] [] M1) ∧ ((M1.1 5 j1) = (3 : Int32) → JC x jtbM mX12_isSo d [.ref (x.2.2.2 0), .int ((171 : Int32) + ((8 : Int32) * a1))] M1 (jZ fun M2 b1 => (b1 = false → P M2) ∧ (b1 = true → ∃ j2, j2 < 2060 ∧ ((171 : Int32) + ((8 : Int32) * a1)) + (7 : Int32) = nI j2 ∧ (JC x jtbM mX12_doAll d [.ref (x.2.2.2 0), .int (a1 + (1 : Int32)), .int (M2.1 5 j2)] M2 (jV fun M3 => P M3)))))) ∧ ((M1.1 5 j1) = (5 : Int32) → ∀ M4, M4 = jrI M1 0 (upd (M1.1 0) 50 (1 : Int32)) → P M4)) ∧ ((M1.1 5 j1) = (2 : Int32) → JW x jtbM mX12_doOne (d + 1) (jV P) 108 [(0, .ref (x.2.2.2 0)), (2, .int ((171 : Int32) + ((8 : Int32) * a1))), (4, .int (0 : Int32))] [] M1)) ∧ ((M1.1 5 j1) = (1 : Int32) → JW x jtbM mX12_doOne (d + 1) (jV P) 56 [(0, .ref (x.2.2.2 0)), (2, .int ((171 : Int32) + ((8 : Int32) * a1))), (3, .int (M1.1 5 j1))] [] M1)))) ∧ ((M.1 0 43) = (400 : Int32) → ∀ M5, M5 = jrI M 0 (upd (M.1 0) 46 (1 : Int32)) → ∀ M6, M6 = jrI M5 0 (upd (M5.1 0) 50 (1 : Int32)) → P M6)) :
    JC x jtbM mX12_doOne (d + 1) [.ref (x.2.2.2 0), .int a1] M (jV P) := by
  refine JC.of rfl (Nat.le_of_ble_eq_true rfl) ?_
  refine jw_ls (ls' := [(0, .ref (x.2.2.2 0)), (1, .int a1)]) rfl ?_
  refine jw_aload_n (pc := 0) (j := 0) dX12_doOne_0 rfl rfl ?_
  refine jw_getI (pc := 1) dX12_doOne_1 sM_0 fl_X12_479 (by decide) rfl ?_
  refine jw_sipush (pc := 4) (v := 400) dX12_doOne_4 rfl ?_
  refine jw_icmp_ne (pc := 7) (tgt := 21) dX12_doOne_7 (by decide) (fun c => ?_) (fun c => ?_)
  · replace h := h.1 c
    refine jw_aload_n (pc := 21) (j := 0) dX12_doOne_21 rfl rfl ?_
    refine jw_dup (pc := 22) dX12_doOne_22 rfl ?_
    refine jw_getI (pc := 23) dX12_doOne_23 sM_0 fl_X12_479 (by decide) rfl ?_
    refine jw_iconst (pc := 26) (v := 1) dX12_doOne_26 rfl ?_
    refine jw_iadd (pc := 27) dX12_doOne_27 ?_
    refine jw_putI (pc := 28) dX12_doOne_28 sM_0 fl_X12_479 fw_12_43 (by decide) rfl ?_
    replace h := h _ rfl
    generalize jrI M 0 (upd (M.1 0) 43 ((M.1 0 43) + (1 : Int32))) = M1 at h ⊢
    refine jw_sipush (pc := 31) (v := 171) dX12_doOne_31 rfl ?_
    refine jw_bipush (pc := 34) (v := 8) dX12_doOne_34 rfl ?_
    refine jw_iload_n (pc := 36) (j := 1) dX12_doOne_36 rfl rfl ?_
    refine jw_imul (pc := 37) dX12_doOne_37 ?_
    refine jw_iadd (pc := 38) dX12_doOne_38 ?_
    refine jw_istore_n (pc := 39) (ls' := [(2, .int ((171 : Int32) + ((8 : Int32) * a1))), (0, .ref (x.2.2.2 0)), (1, .int a1)]) dX12_doOne_39 rfl (by decide) rfl ?_
    refine jw_aload_n (pc := 40) (j := 1) dX12_doOne_40 rfl rfl ?_
    refine jw_getR (pc := 41) (r := 5) dX12_doOne_41 sM_0 fl_X12_35 (by decide) rfl rfl ?_
    refine jw_iload_n (pc := 44) (j := 0) dX12_doOne_44 rfl rfl ?_
    obtain ⟨j1, hj1, ej1, h⟩ := h
    refine jw_iald (pc := 45) (j := j1) dX12_doOne_45 sM_5 hj1 ej1 (by decide) ?_
    refine jw_istore_n (pc := 46) (ls' := [(3, .int (M1.1 5 j1)), (2, .int ((171 : Int32) + ((8 : Int32) * a1))), (0, .ref (x.2.2.2 0)), (1, .int a1)]) dX12_doOne_46 rfl (by decide) rfl ?_
    refine jw_iload_n (pc := 47) (j := 0) dX12_doOne_47 rfl rfl ?_
    refine jw_if_eq (pc := 48) (tgt := 56) dX12_doOne_48 (by decide) (fun c => ?_) (fun c => ?_)
    · replace h := h.1 c
      exact jw_sub [2, 1, 0] rfl h
    · replace h := h.2 c
      refine jw_iload_n (pc := 51) (j := 0) dX12_doOne_51 rfl rfl ?_
      refine jw_iconst (pc := 52) (v := 1) dX12_doOne_52 rfl ?_
      refine jw_icmp_ne (pc := 53) (tgt := 100) dX12_doOne_53 (by decide) (fun c => ?_) (fun c => ?_)
      · replace h := h.1 c
        refine jw_iload_n (pc := 100) (j := 0) dX12_doOne_100 rfl rfl ?_
        refine jw_iconst (pc := 101) (v := 2) dX12_doOne_101 rfl ?_
        refine jw_icmp_ne (pc := 102) (tgt := 150) dX12_doOne_102 (by decide) (fun c => ?_) (fun c => ?_)
        · replace h := h.1 c
          refine jw_iload_n (pc := 150) (j := 0) dX12_doOne_150 rfl rfl ?_
          refine jw_iconst (pc := 151) (v := 5) dX12_doOne_151 rfl ?_
          refine jw_icmp_ne (pc := 152) (tgt := 163) dX12_doOne_152 (by decide) (fun c => ?_) (fun c => ?_)
          · replace h := h.1 c
            refine jw_iload_n (pc := 163) (j := 0) dX12_doOne_163 rfl rfl ?_
            refine jw_iconst (pc := 164) (v := 3) dX12_doOne_164 rfl ?_
            refine jw_icmp_ne (pc := 165) (tgt := 195) dX12_doOne_165 (by decide) (fun c => ?_) (fun c => ?_)
            · replace h := h.1 c
              refine jw_iconst (pc := 195) (v := 0) dX12_doOne_195 rfl ?_
              refine jw_istore (pc := 196) (ls' := [(4, .int (0 : Int32)), (3, .int (M1.1 5 j1)), (2, .int ((171 : Int32) + ((8 : Int32) * a1))), (0, .ref (x.2.2.2 0)), (1, .int a1)]) dX12_doOne_196 (by decide) rfl ?_
              exact jw_sub [3, 4, 2, 0] rfl h
            · replace h := h.2 c
              refine jw_aload_n (pc := 168) (j := 2) dX12_doOne_168 rfl rfl ?_
              refine jw_iload_n (pc := 169) (j := 1) dX12_doOne_169 rfl rfl ?_
              refine jw_callV (pc := 170) (m2 := mX12_isSo) (As := [.int ((171 : Int32) + ((8 : Int32) * a1))]) (st := []) dX12_doOne_170 sM_0 (by decide) rfl rfl gm_X12_isSo ml_X12_495 rfl (Nat.le_of_ble_eq_true rfl) (JC.mono h ?_)
              clear h
              rintro M2 _ ⟨b1, rfl, h⟩
              refine jw_st (st' := [.int (jb b1)]) rfl ?_
              refine jw_if_eq (pc := 173) (tgt := 240) dX12_doOne_173 (by decide) (fun c => ?_) (fun c => ?_)
              · replace h := h.1 ((jb_0 _).mp c)
                exact jw_vret (pc := 240) dX12_doOne_240 rfl ⟨rfl, h⟩
              · replace h := h.2 (jb_ne c)
                refine jw_aload_n (pc := 176) (j := 2) dX12_doOne_176 rfl rfl ?_
                refine jw_iload_n (pc := 177) (j := 3) dX12_doOne_177 rfl rfl ?_
                refine jw_iconst (pc := 178) (v := 1) dX12_doOne_178 rfl ?_
                refine jw_iadd (pc := 179) dX12_doOne_179 ?_
                refine jw_aload_n (pc := 180) (j := 2) dX12_doOne_180 rfl rfl ?_
                refine jw_getR (pc := 181) (r := 5) dX12_doOne_181 sM_0 fl_X12_35 (by decide) rfl rfl ?_
                refine jw_iload_n (pc := 184) (j := 1) dX12_doOne_184 rfl rfl ?_
                refine jw_bipush (pc := 185) (v := 7) dX12_doOne_185 rfl ?_
                refine jw_iadd (pc := 187) dX12_doOne_187 ?_
                obtain ⟨j2, hj2, ej2, h⟩ := h
                refine jw_iald (pc := 188) (j := j2) dX12_doOne_188 sM_5 hj2 ej2 (by decide) ?_
                refine jw_callV (pc := 189) (m2 := mX12_doAll) (As := [.int (a1 + (1 : Int32)), .int (M2.1 5 j2)]) (st := []) dX12_doOne_189 sM_0 (by decide) rfl rfl gm_X12_doAll ml_X12_498 rfl (Nat.le_of_ble_eq_true rfl) (JC.mono h ?_)
                clear h
                rintro M3 _ ⟨rfl, h⟩
                refine jw_st (st' := []) rfl ?_
                refine jw_goto (pc := 192) (tgt := 240) dX12_doOne_192 (by decide) ?_
                exact jw_vret (pc := 240) dX12_doOne_240 rfl ⟨rfl, h⟩
          · replace h := h.2 c
            refine jw_aload_n (pc := 155) (j := 2) dX12_doOne_155 rfl rfl ?_
            refine jw_iconst (pc := 156) (v := 1) dX12_doOne_156 rfl ?_
            refine jw_putZ (pc := 157) dX12_doOne_157 sM_0 fl_X12_485 fw_12_50 (by decide) rfl (Or.inr rfl) ?_
            replace h := h _ rfl
            generalize jrI M1 0 (upd (M1.1 0) 50 (1 : Int32)) = M4 at h ⊢
            refine jw_goto (pc := 160) (tgt := 240) dX12_doOne_160 (by decide) ?_
            exact jw_vret (pc := 240) dX12_doOne_240 rfl ⟨rfl, h⟩
        · replace h := h.2 c
          refine jw_iconst (pc := 105) (v := 0) dX12_doOne_105 rfl ?_
          refine jw_istore (pc := 106) (ls' := [(4, .int (0 : Int32)), (3, .int (M1.1 5 j1)), (2, .int ((171 : Int32) + ((8 : Int32) * a1))), (0, .ref (x.2.2.2 0)), (1, .int a1)]) dX12_doOne_106 (by decide) rfl ?_
          exact jw_sub [3, 2, 0] rfl h
      · replace h := h.2 c
        exact jw_sub [2, 1, 0] rfl h
  · replace h := h.2 c
    refine jw_aload_n (pc := 10) (j := 0) dX12_doOne_10 rfl rfl ?_
    refine jw_iconst (pc := 11) (v := 1) dX12_doOne_11 rfl ?_
    refine jw_putI (pc := 12) dX12_doOne_12 sM_0 fl_X12_482 fw_12_46 (by decide) rfl ?_
    replace h := h _ rfl
    generalize jrI M 0 (upd (M.1 0) 46 (1 : Int32)) = M5 at h ⊢
    refine jw_aload_n (pc := 15) (j := 0) dX12_doOne_15 rfl rfl ?_
    refine jw_iconst (pc := 16) (v := 1) dX12_doOne_16 rfl ?_
    refine jw_putZ (pc := 17) dX12_doOne_17 sM_0 fl_X12_485 fw_12_50 (by decide) rfl (Or.inr rfl) ?_
    replace h := h _ rfl
    generalize jrI M5 0 (upd (M5.1 0) 50 (1 : Int32)) = M6 at h ⊢
    exact jw_vret (pc := 20) dX12_doOne_20 rfl ⟨rfl, h⟩
set_option maxRecDepth 20000 in
theorem b_X12_doOne_56 {x : jX} {d : Nat} {M : jM} {P : jM → Prop} {l2 : Int32} {l3 : Int32} 
    (h : JC x jtbM mX12_cellOf d [.ref (x.2.2.2 0), .int l2] M (jI fun M1 r1 => (r1 < 0 → P M1) ∧ (¬ r1 < 0 → JC x jtbM mX12_cellOf d [.ref (x.2.2.2 0), .int l2] M1 (jI fun M2 r2 => (¬ l3 = 0 → ∃ j1, j1 < 2060 ∧ l2 + (3 : Int32) = nI j1 ∧ (JC x jtbM mX12_change d [.ref (x.2.2.2 0), .int r2, .int (-(M2.1 5 j1))] M2 (jV fun M3 => P M3))) ∧ (l3 = 0 → ∃ j2, j2 < 2060 ∧ l2 + (3 : Int32) = nI j2 ∧ (JC x jtbM mX12_change d [.ref (x.2.2.2 0), .int r2, .int (M2.1 5 j2)] M2 (jV fun M4 => P M4))))))) :
    JW x jtbM mX12_doOne (d + 1) (jV P) 56 [(0, .ref (x.2.2.2 0)), (2, .int l2), (3, .int l3)] [] M := by
  refine jw_aload_n (pc := 56) (j := 0) dX12_doOne_56 rfl rfl ?_
  refine jw_iload_n (pc := 57) (j := 1) dX12_doOne_57 rfl rfl ?_
  refine jw_callV (pc := 58) (m2 := mX12_cellOf) (As := [.int l2]) (st := []) dX12_doOne_58 sM_0 (by decide) rfl rfl gm_X12_cellOf ml_X12_470 rfl (Nat.le_of_ble_eq_true rfl) (JC.mono h ?_)
  clear h
  rintro M1 _ ⟨r1, rfl, h⟩
  refine jw_st (st' := [.int r1]) rfl ?_
  refine jw_if_lt (pc := 61) (tgt := 240) dX12_doOne_61 (by decide) (fun c => ?_) (fun c => ?_)
  · replace h := h.1 c
    exact jw_vret (pc := 240) dX12_doOne_240 rfl ⟨rfl, h⟩
  · replace h := h.2 c
    refine jw_aload_n (pc := 64) (j := 0) dX12_doOne_64 rfl rfl ?_
    refine jw_aload_n (pc := 65) (j := 0) dX12_doOne_65 rfl rfl ?_
    refine jw_iload_n (pc := 66) (j := 1) dX12_doOne_66 rfl rfl ?_
    refine jw_callV (pc := 67) (m2 := mX12_cellOf) (As := [.int l2]) (st := [.ref (x.2.2.2 0)]) dX12_doOne_67 sM_0 (by decide) rfl rfl gm_X12_cellOf ml_X12_470 rfl (Nat.le_of_ble_eq_true rfl) (JC.mono h ?_)
    clear h
    rintro M2 _ ⟨r2, rfl, h⟩
    refine jw_st (st' := [.int r2, .ref (x.2.2.2 0)]) rfl ?_
    refine jw_iload_n (pc := 70) (j := 2) dX12_doOne_70 rfl rfl ?_
    refine jw_if_ne (pc := 71) (tgt := 85) dX12_doOne_71 (by decide) (fun c => ?_) (fun c => ?_)
    · replace h := h.1 c
      refine jw_aload_n (pc := 85) (j := 0) dX12_doOne_85 rfl rfl ?_
      refine jw_getR (pc := 86) (r := 5) dX12_doOne_86 sM_0 fl_X12_35 (by decide) rfl rfl ?_
      refine jw_iload_n (pc := 89) (j := 1) dX12_doOne_89 rfl rfl ?_
      refine jw_iconst (pc := 90) (v := 3) dX12_doOne_90 rfl ?_
      refine jw_iadd (pc := 91) dX12_doOne_91 ?_
      obtain ⟨j1, hj1, ej1, h⟩ := h
      refine jw_iald (pc := 92) (j := j1) dX12_doOne_92 sM_5 hj1 ej1 (by decide) ?_
      refine jw_ineg (pc := 93) dX12_doOne_93 ?_
      refine jw_callV (pc := 94) (m2 := mX12_change) (As := [.int r2, .int (-(M2.1 5 j1))]) (st := []) dX12_doOne_94 sM_0 (by decide) rfl rfl gm_X12_change ml_X12_489 rfl (Nat.le_of_ble_eq_true rfl) (JC.mono h ?_)
      clear h
      rintro M3 _ ⟨rfl, h⟩
      refine jw_st (st' := []) rfl ?_
      refine jw_goto (pc := 97) (tgt := 240) dX12_doOne_97 (by decide) ?_
      exact jw_vret (pc := 240) dX12_doOne_240 rfl ⟨rfl, h⟩
    · replace h := h.2 c
      refine jw_aload_n (pc := 74) (j := 0) dX12_doOne_74 rfl rfl ?_
      refine jw_getR (pc := 75) (r := 5) dX12_doOne_75 sM_0 fl_X12_35 (by decide) rfl rfl ?_
      refine jw_iload_n (pc := 78) (j := 1) dX12_doOne_78 rfl rfl ?_
      refine jw_iconst (pc := 79) (v := 3) dX12_doOne_79 rfl ?_
      refine jw_iadd (pc := 80) dX12_doOne_80 ?_
      obtain ⟨j2, hj2, ej2, h⟩ := h
      refine jw_iald (pc := 81) (j := j2) dX12_doOne_81 sM_5 hj2 ej2 (by decide) ?_
      refine jw_goto (pc := 82) (tgt := 94) dX12_doOne_82 (by decide) ?_
      refine jw_callV (pc := 94) (m2 := mX12_change) (As := [.int r2, .int (M2.1 5 j2)]) (st := []) dX12_doOne_94 sM_0 (by decide) rfl rfl gm_X12_change ml_X12_489 rfl (Nat.le_of_ble_eq_true rfl) (JC.mono h ?_)
      clear h
      rintro M4 _ ⟨rfl, h⟩
      refine jw_st (st' := []) rfl ?_
      refine jw_goto (pc := 97) (tgt := 240) dX12_doOne_97 (by decide) ?_
      exact jw_vret (pc := 240) dX12_doOne_240 rfl ⟨rfl, h⟩
set_option maxRecDepth 20000 in
theorem b_X12_doOne_108 {x : jX} {d : Nat} {M : jM} {P : jM → Prop} {l2 : Int32} {l4 : Int32} 
    (h : ∃ j1, j1 < 2060 ∧ l2 + (3 : Int32) = nI j1 ∧ (((M.1 5 j1) ≤ l4 → P M) ∧ (¬ (M.1 5 j1) ≤ l4 → JC x jtbM mX12_cells d [.ref (x.2.2.2 0)] M (jI fun M1 r1 => (r1 ≤ 0 → P M1) ∧ (¬ r1 ≤ 0 → JC x jtbM mX12_cells d [.ref (x.2.2.2 0)] M1 (jI fun M2 r2 => JC x jtbM mX12_draw d [.ref (x.2.2.2 0), .int r2] M2 (jI fun M3 r3 => JC x jtbM mX12_change d [.ref (x.2.2.2 0), .int r3, .int (-1 : Int32)] M3 (jV fun M4 => JW x jtbM mX12_doOne (d + 1) (jV P) 108 [(0, .ref (x.2.2.2 0)), (2, .int l2), (4, .int (l4 + 1))] [] M4)))))))) :
    JW x jtbM mX12_doOne (d + 1) (jV P) 108 [(0, .ref (x.2.2.2 0)), (2, .int l2), (4, .int l4)] [] M := by
  refine jw_iload (pc := 108) (j := 2) dX12_doOne_108 rfl ?_
  refine jw_aload_n (pc := 110) (j := 0) dX12_doOne_110 rfl rfl ?_
  refine jw_getR (pc := 111) (r := 5) dX12_doOne_111 sM_0 fl_X12_35 (by decide) rfl rfl ?_
  refine jw_iload_n (pc := 114) (j := 1) dX12_doOne_114 rfl rfl ?_
  refine jw_iconst (pc := 115) (v := 3) dX12_doOne_115 rfl ?_
  refine jw_iadd (pc := 116) dX12_doOne_116 ?_
  obtain ⟨j1, hj1, ej1, h⟩ := h
  refine jw_iald (pc := 117) (j := j1) dX12_doOne_117 sM_5 hj1 ej1 (by decide) ?_
  refine jw_icmp_ge (pc := 118) (tgt := 147) dX12_doOne_118 (by decide) (fun c => ?_) (fun c => ?_)
  · replace h := h.1 c
    refine jw_goto (pc := 147) (tgt := 240) dX12_doOne_147 (by decide) ?_
    exact jw_vret (pc := 240) dX12_doOne_240 rfl ⟨rfl, h⟩
  · replace h := h.2 c
    refine jw_aload_n (pc := 121) (j := 0) dX12_doOne_121 rfl rfl ?_
    refine jw_callV (pc := 122) (m2 := mX12_cells) (As := []) (st := []) dX12_doOne_122 sM_0 (by decide) rfl rfl gm_X12_cells ml_X12_305 rfl (Nat.le_of_ble_eq_true rfl) (JC.mono h ?_)
    clear h
    rintro M1 _ ⟨r1, rfl, h⟩
    refine jw_st (st' := [.int r1]) rfl ?_
    refine jw_if_le (pc := 125) (tgt := 147) dX12_doOne_125 (by decide) (fun c => ?_) (fun c => ?_)
    · replace h := h.1 c
      refine jw_goto (pc := 147) (tgt := 240) dX12_doOne_147 (by decide) ?_
      exact jw_vret (pc := 240) dX12_doOne_240 rfl ⟨rfl, h⟩
    · replace h := h.2 c
      refine jw_aload_n (pc := 128) (j := 0) dX12_doOne_128 rfl rfl ?_
      refine jw_aload_n (pc := 129) (j := 0) dX12_doOne_129 rfl rfl ?_
      refine jw_aload_n (pc := 130) (j := 0) dX12_doOne_130 rfl rfl ?_
      refine jw_callV (pc := 131) (m2 := mX12_cells) (As := []) (st := [.ref (x.2.2.2 0), .ref (x.2.2.2 0)]) dX12_doOne_131 sM_0 (by decide) rfl rfl gm_X12_cells ml_X12_305 rfl (Nat.le_of_ble_eq_true rfl) (JC.mono h ?_)
      clear h
      rintro M2 _ ⟨r2, rfl, h⟩
      refine jw_st (st' := [.int r2, .ref (x.2.2.2 0), .ref (x.2.2.2 0)]) rfl ?_
      refine jw_callV (pc := 134) (m2 := mX12_draw) (As := [.int r2]) (st := [.ref (x.2.2.2 0)]) dX12_doOne_134 sM_0 (by decide) rfl rfl gm_X12_draw ml_X12_492 rfl (Nat.le_of_ble_eq_true rfl) (JC.mono h ?_)
      clear h
      rintro M3 _ ⟨r3, rfl, h⟩
      refine jw_st (st' := [.int r3, .ref (x.2.2.2 0)]) rfl ?_
      refine jw_iconst (pc := 137) (v := (-1)) dX12_doOne_137 rfl ?_
      refine jw_callV (pc := 138) (m2 := mX12_change) (As := [.int r3, .int (-1 : Int32)]) (st := []) dX12_doOne_138 sM_0 (by decide) rfl rfl gm_X12_change ml_X12_489 rfl (Nat.le_of_ble_eq_true rfl) (JC.mono h ?_)
      clear h
      rintro M4 _ ⟨rfl, h⟩
      refine jw_st (st' := []) rfl ?_
      refine jw_iinc (pc := 141) (j := 2) (u := l4 + 1) (ls' := [(4, .int (l4 + 1)), (0, .ref (x.2.2.2 0)), (2, .int l2)]) dX12_doOne_141 rfl rfl (by decide) rfl ?_
      refine jw_goto (pc := 144) (tgt := 108) dX12_doOne_144 (by decide) ?_
      exact jw_sub [1, 2, 0] rfl h
set_option maxRecDepth 20000 in
theorem b_X12_doOne_198 {x : jX} {d : Nat} {M : jM} {P : jM → Prop} {l1 : Int32} {l2 : Int32} {l4 : Int32} 
    (h : ∃ j1, j1 < 2060 ∧ l2 + (3 : Int32) = nI j1 ∧ (((M.1 5 j1) ≤ l4 → P M) ∧ (¬ (M.1 5 j1) ≤ l4 → (¬ (M.1 0 50) = 0 → P M) ∧ ((M.1 0 50) = 0 → ∃ j2, j2 < 2060 ∧ l2 + (7 : Int32) = nI j2 ∧ (JC x jtbM mX12_doAll d [.ref (x.2.2.2 0), .int (l1 + (1 : Int32)), .int (M.1 5 j2)] M (jV fun M1 => JW x jtbM mX12_doOne (d + 1) (jV P) 198 [(0, .ref (x.2.2.2 0)), (1, .int l1), (2, .int l2), (4, .int (l4 + 1))] [] M1)))))) :
    JW x jtbM mX12_doOne (d + 1) (jV P) 198 [(0, .ref (x.2.2.2 0)), (1, .int l1), (2, .int l2), (4, .int l4)] [] M := by
  refine jw_iload (pc := 198) (j := 3) dX12_doOne_198 rfl ?_
  refine jw_aload_n (pc := 200) (j := 0) dX12_doOne_200 rfl rfl ?_
  refine jw_getR (pc := 201) (r := 5) dX12_doOne_201 sM_0 fl_X12_35 (by decide) rfl rfl ?_
  refine jw_iload_n (pc := 204) (j := 2) dX12_doOne_204 rfl rfl ?_
  refine jw_iconst (pc := 205) (v := 3) dX12_doOne_205 rfl ?_
  refine jw_iadd (pc := 206) dX12_doOne_206 ?_
  obtain ⟨j1, hj1, ej1, h⟩ := h
  refine jw_iald (pc := 207) (j := j1) dX12_doOne_207 sM_5 hj1 ej1 (by decide) ?_
  refine jw_icmp_ge (pc := 208) (tgt := 240) dX12_doOne_208 (by decide) (fun c => ?_) (fun c => ?_)
  · replace h := h.1 c
    exact jw_vret (pc := 240) dX12_doOne_240 rfl ⟨rfl, h⟩
  · replace h := h.2 c
    refine jw_aload_n (pc := 211) (j := 0) dX12_doOne_211 rfl rfl ?_
    refine jw_getI (pc := 212) dX12_doOne_212 sM_0 fl_X12_485 (by decide) rfl ?_
    refine jw_if_ne (pc := 215) (tgt := 240) dX12_doOne_215 (by decide) (fun c => ?_) (fun c => ?_)
    · replace h := h.1 c
      exact jw_vret (pc := 240) dX12_doOne_240 rfl ⟨rfl, h⟩
    · replace h := h.2 c
      refine jw_aload_n (pc := 218) (j := 0) dX12_doOne_218 rfl rfl ?_
      refine jw_iload_n (pc := 219) (j := 1) dX12_doOne_219 rfl rfl ?_
      refine jw_iconst (pc := 220) (v := 1) dX12_doOne_220 rfl ?_
      refine jw_iadd (pc := 221) dX12_doOne_221 ?_
      refine jw_aload_n (pc := 222) (j := 0) dX12_doOne_222 rfl rfl ?_
      refine jw_getR (pc := 223) (r := 5) dX12_doOne_223 sM_0 fl_X12_35 (by decide) rfl rfl ?_
      refine jw_iload_n (pc := 226) (j := 2) dX12_doOne_226 rfl rfl ?_
      refine jw_bipush (pc := 227) (v := 7) dX12_doOne_227 rfl ?_
      refine jw_iadd (pc := 229) dX12_doOne_229 ?_
      obtain ⟨j2, hj2, ej2, h⟩ := h
      refine jw_iald (pc := 230) (j := j2) dX12_doOne_230 sM_5 hj2 ej2 (by decide) ?_
      refine jw_callV (pc := 231) (m2 := mX12_doAll) (As := [.int (l1 + (1 : Int32)), .int (M.1 5 j2)]) (st := []) dX12_doOne_231 sM_0 (by decide) rfl rfl gm_X12_doAll ml_X12_498 rfl (Nat.le_of_ble_eq_true rfl) (JC.mono h ?_)
      clear h
      rintro M1 _ ⟨rfl, h⟩
      refine jw_st (st' := []) rfl ?_
      refine jw_iinc (pc := 234) (j := 3) (u := l4 + 1) (ls' := [(4, .int (l4 + 1)), (0, .ref (x.2.2.2 0)), (1, .int l1), (2, .int l2)]) dX12_doOne_234 rfl rfl (by decide) rfl ?_
      refine jw_goto (pc := 237) (tgt := 198) dX12_doOne_237 (by decide) ?_
      exact jw_sub [1, 2, 3, 0] rfl h
set_option maxRecDepth 20000 in
theorem b_X12_doAll {x : jX} {d : Nat} {M : jM} {P : jM → Prop} {a1 : Int32} {a2 : Int32} 
    (h : JW x jtbM mX12_doAll (d + 1) (jV P) 2 [(0, .ref (x.2.2.2 0)), (2, .int a2), (3, .int a1)] [] M) :
    JC x jtbM mX12_doAll (d + 1) [.ref (x.2.2.2 0), .int a1, .int a2] M (jV P) := by
  refine JC.of rfl (Nat.le_of_ble_eq_true rfl) ?_
  refine jw_ls (ls' := [(0, .ref (x.2.2.2 0)), (1, .int a1), (2, .int a2)]) rfl ?_
  refine jw_iload_n (pc := 0) (j := 1) dX12_doAll_0 rfl rfl ?_
  refine jw_istore_n (pc := 1) (ls' := [(3, .int a1), (0, .ref (x.2.2.2 0)), (1, .int a1), (2, .int a2)]) dX12_doAll_1 rfl (by decide) rfl ?_
  exact jw_sub [1, 3, 0] rfl h
set_option maxRecDepth 20000 in
theorem b_X12_doAll_2 {x : jX} {d : Nat} {M : jM} {P : jM → Prop} {l2 : Int32} {l3 : Int32} 
    (h : (l2 ≤ l3 → P M) ∧ (¬ l2 ≤ l3 → (¬ (M.1 0 50) = 0 → P M) ∧ ((M.1 0 50) = 0 → JC x jtbM mX12_doOne d [.ref (x.2.2.2 0), .int l3] M (jV fun M1 => ∃ j1, j1 < 2060 ∧ ((171 : Int32) + ((8 : Int32) * l3)) + (7 : Int32) = nI j1 ∧ (JW x jtbM mX12_doAll (d + 1) (jV P) 2 [(0, .ref (x.2.2.2 0)), (2, .int l2), (3, .int (M1.1 5 j1))] [] M1))))) :
    JW x jtbM mX12_doAll (d + 1) (jV P) 2 [(0, .ref (x.2.2.2 0)), (2, .int l2), (3, .int l3)] [] M := by
  refine jw_iload_n (pc := 2) (j := 2) dX12_doAll_2 rfl rfl ?_
  refine jw_iload_n (pc := 3) (j := 1) dX12_doAll_3 rfl rfl ?_
  refine jw_icmp_ge (pc := 4) (tgt := 39) dX12_doAll_4 (by decide) (fun c => ?_) (fun c => ?_)
  · replace h := h.1 c
    exact jw_vret (pc := 39) dX12_doAll_39 rfl ⟨rfl, h⟩
  · replace h := h.2 c
    refine jw_aload_n (pc := 7) (j := 0) dX12_doAll_7 rfl rfl ?_
    refine jw_getI (pc := 8) dX12_doAll_8 sM_0 fl_X12_485 (by decide) rfl ?_
    refine jw_if_ne (pc := 11) (tgt := 39) dX12_doAll_11 (by decide) (fun c => ?_) (fun c => ?_)
    · replace h := h.1 c
      exact jw_vret (pc := 39) dX12_doAll_39 rfl ⟨rfl, h⟩
    · replace h := h.2 c
      refine jw_aload_n (pc := 14) (j := 0) dX12_doAll_14 rfl rfl ?_
      refine jw_iload_n (pc := 15) (j := 2) dX12_doAll_15 rfl rfl ?_
      refine jw_callV (pc := 16) (m2 := mX12_doOne) (As := [.int l3]) (st := []) dX12_doAll_16 sM_0 (by decide) rfl rfl gm_X12_doOne ml_X12_501 rfl (Nat.le_of_ble_eq_true rfl) (JC.mono h ?_)
      clear h
      rintro M1 _ ⟨rfl, h⟩
      refine jw_st (st' := []) rfl ?_
      refine jw_aload_n (pc := 19) (j := 0) dX12_doAll_19 rfl rfl ?_
      refine jw_getR (pc := 20) (r := 5) dX12_doAll_20 sM_0 fl_X12_35 (by decide) rfl rfl ?_
      refine jw_sipush (pc := 23) (v := 171) dX12_doAll_23 rfl ?_
      refine jw_bipush (pc := 26) (v := 8) dX12_doAll_26 rfl ?_
      refine jw_iload_n (pc := 28) (j := 2) dX12_doAll_28 rfl rfl ?_
      refine jw_imul (pc := 29) dX12_doAll_29 ?_
      refine jw_iadd (pc := 30) dX12_doAll_30 ?_
      refine jw_bipush (pc := 31) (v := 7) dX12_doAll_31 rfl ?_
      refine jw_iadd (pc := 33) dX12_doAll_33 ?_
      obtain ⟨j1, hj1, ej1, h⟩ := h
      refine jw_iald (pc := 34) (j := j1) dX12_doAll_34 sM_5 hj1 ej1 (by decide) ?_
      refine jw_istore_n (pc := 35) (ls' := [(3, .int (M1.1 5 j1)), (0, .ref (x.2.2.2 0)), (2, .int l2)]) dX12_doAll_35 rfl (by decide) rfl ?_
      refine jw_goto (pc := 36) (tgt := 2) dX12_doAll_36 (by decide) ?_
      exact jw_sub [1, 2, 0] rfl h
set_option maxRecDepth 20000 in
theorem b_X12_run {x : jX} {d : Nat} {M : jM} {P : jM → Prop} {a1 : Int32} 
    (h : ∀ M1, M1 = jrI M 0 (upd (M.1 0) 42 a1) → ∀ M2, M2 = jrI M1 0 (upd (M1.1 0) 43 (0 : Int32)) → ∀ M3, M3 = jrI M2 0 (upd (M2.1 0) 44 (0 : Int32)) → ∀ M4, M4 = jrI M3 0 (upd (M3.1 0) 45 (0 : Int32)) → ∀ M5, M5 = jrI M4 0 (upd (M4.1 0) 46 (0 : Int32)) → ∀ M6, M6 = jrI M5 0 (upd (M5.1 0) 50 (0 : Int32)) → JC x jtbM mX12_doAll d [.ref (x.2.2.2 0), .int (0 : Int32), .int (M6.1 5 170)] M6 (jV fun M7 => P M7)) :
    JC x jtbM mX12_run (d + 1) [.ref (x.2.2.2 0), .int a1] M (jV P) := by
  refine JC.of rfl (Nat.le_of_ble_eq_true rfl) ?_
  refine jw_ls (ls' := [(0, .ref (x.2.2.2 0)), (1, .int a1)]) rfl ?_
  refine jw_aload_n (pc := 0) (j := 0) dX12_run_0 rfl rfl ?_
  refine jw_iload_n (pc := 1) (j := 1) dX12_run_1 rfl rfl ?_
  refine jw_putI (pc := 2) dX12_run_2 sM_0 fl_X12_460 fw_12_42 (by decide) rfl ?_
  replace h := h _ rfl
  generalize jrI M 0 (upd (M.1 0) 42 a1) = M1 at h ⊢
  refine jw_aload_n (pc := 5) (j := 0) dX12_run_5 rfl rfl ?_
  refine jw_iconst (pc := 6) (v := 0) dX12_run_6 rfl ?_
  refine jw_putI (pc := 7) dX12_run_7 sM_0 fl_X12_479 fw_12_43 (by decide) rfl ?_
  replace h := h _ rfl
  generalize jrI M1 0 (upd (M1.1 0) 43 (0 : Int32)) = M2 at h ⊢
  refine jw_aload_n (pc := 10) (j := 0) dX12_run_10 rfl rfl ?_
  refine jw_iconst (pc := 11) (v := 0) dX12_run_11 rfl ?_
  refine jw_putI (pc := 12) dX12_run_12 sM_0 fl_X12_464 fw_12_44 (by decide) rfl ?_
  replace h := h _ rfl
  generalize jrI M2 0 (upd (M2.1 0) 44 (0 : Int32)) = M3 at h ⊢
  refine jw_aload_n (pc := 15) (j := 0) dX12_run_15 rfl rfl ?_
  refine jw_iconst (pc := 16) (v := 0) dX12_run_16 rfl ?_
  refine jw_putI (pc := 17) dX12_run_17 sM_0 fl_X12_467 fw_12_45 (by decide) rfl ?_
  replace h := h _ rfl
  generalize jrI M3 0 (upd (M3.1 0) 45 (0 : Int32)) = M4 at h ⊢
  refine jw_aload_n (pc := 20) (j := 0) dX12_run_20 rfl rfl ?_
  refine jw_iconst (pc := 21) (v := 0) dX12_run_21 rfl ?_
  refine jw_putI (pc := 22) dX12_run_22 sM_0 fl_X12_482 fw_12_46 (by decide) rfl ?_
  replace h := h _ rfl
  generalize jrI M4 0 (upd (M4.1 0) 46 (0 : Int32)) = M5 at h ⊢
  refine jw_aload_n (pc := 25) (j := 0) dX12_run_25 rfl rfl ?_
  refine jw_iconst (pc := 26) (v := 0) dX12_run_26 rfl ?_
  refine jw_putZ (pc := 27) dX12_run_27 sM_0 fl_X12_485 fw_12_50 (by decide) rfl (Or.inl rfl) ?_
  replace h := h _ rfl
  generalize jrI M5 0 (upd (M5.1 0) 50 (0 : Int32)) = M6 at h ⊢
  refine jw_aload_n (pc := 30) (j := 0) dX12_run_30 rfl rfl ?_
  refine jw_iconst (pc := 31) (v := 0) dX12_run_31 rfl ?_
  refine jw_aload_n (pc := 32) (j := 0) dX12_run_32 rfl rfl ?_
  refine jw_getR (pc := 33) (r := 5) dX12_run_33 sM_0 fl_X12_35 (by decide) rfl rfl ?_
  refine jw_sipush (pc := 36) (v := 170) dX12_run_36 rfl ?_
  refine jw_iald (pc := 39) (j := 170) dX12_run_39 sM_5 (by decide) rfl (by decide) ?_
  refine jw_callV (pc := 40) (m2 := mX12_doAll) (As := [.int (0 : Int32), .int (M6.1 5 170)]) (st := []) dX12_run_40 sM_0 (by decide) rfl rfl gm_X12_doAll ml_X12_498 rfl (Nat.le_of_ble_eq_true rfl) (JC.mono h ?_)
  clear h
  rintro M7 _ ⟨rfl, h⟩
  refine jw_st (st' := []) rfl ?_
  exact jw_vret (pc := 43) dX12_run_43 rfl ⟨rfl, h⟩
set_option maxRecDepth 20000 in
theorem b_X12_built {x : jX} {d : Nat} {M : jM} {P : jM → Int32 → Prop} {a1 : Int32} 
    (h : ∀ M1, M1 = jrI M 0 (upd (M.1 0) 1 (0 : Int32)) → ∀ M2, M2 = jrI M1 0 (upd (M1.1 0) 0 (0 : Int32)) → JC x jtbM mX12_isIn d [.long a1.toInt64, .long (0 : Int64), .long (9999 : Int64)] M2 (jZ fun M3 b1 => (b1 = true → (¬ (M3.1 5 169) = 0 → JC x jtbM mX12_run d [.ref (x.2.2.2 0), .int a1] M3 (jV fun M4 => ∀ M5, M5 = jrI M4 16 (upd (M4.1 16) 0 (M4.1 0 44)) → ∀ M6, M6 = jrI M5 16 (upd (M5.1 16) 1 (M5.1 0 45)) → ∀ M7, M7 = jrI M6 16 (upd (M6.1 16) 2 (M6.1 0 46)) → ∀ M8, M8 = jrI M7 0 (upd (M7.1 0) 49 (1 : Int32)) → P M8 (M8.1 0 43))) ∧ ((M3.1 5 169) = 0 → JC x jtbM mX12_refuse d [.ref (x.2.2.2 0), .int (8 : Int32)] M3 (jI fun M9 r1 => P M9 r1))) ∧ (b1 = false → JC x jtbM mX12_refuse d [.ref (x.2.2.2 0), .int (5 : Int32)] M3 (jI fun M10 r2 => P M10 r2)))) :
    JC x jtbM mX12_built (d + 1) [.ref (x.2.2.2 0), .int a1] M (jI P) := by
  refine JC.of rfl (Nat.le_of_ble_eq_true rfl) ?_
  refine jw_ls (ls' := [(0, .ref (x.2.2.2 0)), (1, .int a1)]) rfl ?_
  refine jw_aload_n (pc := 0) (j := 0) dX12_built_0 rfl rfl ?_
  refine jw_iconst (pc := 1) (v := 0) dX12_built_1 rfl ?_
  refine jw_putI (pc := 2) dX12_built_2 sM_0 fl_X12_81 fw_12_1 (by decide) rfl ?_
  replace h := h _ rfl
  generalize jrI M 0 (upd (M.1 0) 1 (0 : Int32)) = M1 at h ⊢
  refine jw_aload_n (pc := 5) (j := 0) dX12_built_5 rfl rfl ?_
  refine jw_iconst (pc := 6) (v := 0) dX12_built_6 rfl ?_
  refine jw_putI (pc := 7) dX12_built_7 sM_0 fl_X12_84 fw_12_0 (by decide) rfl ?_
  replace h := h _ rfl
  generalize jrI M1 0 (upd (M1.1 0) 0 (0 : Int32)) = M2 at h ⊢
  refine jw_iload_n (pc := 10) (j := 1) dX12_built_10 rfl rfl ?_
  refine jw_i2l (pc := 11) dX12_built_11 ?_
  refine jw_lconst (pc := 12) (v := 0) dX12_built_12 rfl ?_
  refine jw_ldc2 (pc := 13) (v := 9999) dX12_built_13 kl_X12_504 ?_
  refine jw_callS (pc := 16) (m2 := mX12_isIn) (As := [.long a1.toInt64, .long (0 : Int64), .long (9999 : Int64)]) (st := []) dX12_built_16 gm_X12_isIn ml_X12_116 rfl (Nat.le_of_ble_eq_true rfl) (JC.mono h ?_)
  clear h
  rintro M3 _ ⟨b1, rfl, h⟩
  refine jw_st (st' := [.int (jb b1)]) rfl ?_
  refine jw_if_ne (pc := 19) (tgt := 28) dX12_built_19 (by decide) (fun c => ?_) (fun c => ?_)
  · replace h := h.1 (jb_ne c)
    refine jw_aload_n (pc := 28) (j := 0) dX12_built_28 rfl rfl ?_
    refine jw_getR (pc := 29) (r := 5) dX12_built_29 sM_0 fl_X12_35 (by decide) rfl rfl ?_
    refine jw_sipush (pc := 32) (v := 169) dX12_built_32 rfl ?_
    refine jw_iald (pc := 35) (j := 169) dX12_built_35 sM_5 (by decide) rfl (by decide) ?_
    refine jw_if_ne (pc := 36) (tgt := 46) dX12_built_36 (by decide) (fun c => ?_) (fun c => ?_)
    · replace h := h.1 c
      refine jw_aload_n (pc := 46) (j := 0) dX12_built_46 rfl rfl ?_
      refine jw_iload_n (pc := 47) (j := 1) dX12_built_47 rfl rfl ?_
      refine jw_callV (pc := 48) (m2 := mX12_run) (As := [.int a1]) (st := []) dX12_built_48 sM_0 (by decide) rfl rfl gm_X12_run ml_X12_506 rfl (Nat.le_of_ble_eq_true rfl) (JC.mono h ?_)
      clear h
      rintro M4 _ ⟨rfl, h⟩
      refine jw_st (st' := []) rfl ?_
      refine jw_aload_n (pc := 51) (j := 0) dX12_built_51 rfl rfl ?_
      refine jw_getR (pc := 52) (r := 16) dX12_built_52 sM_0 fl_X12_69 (by decide) rfl rfl ?_
      refine jw_iconst (pc := 55) (v := 0) dX12_built_55 rfl ?_
      refine jw_aload_n (pc := 56) (j := 0) dX12_built_56 rfl rfl ?_
      refine jw_getI (pc := 57) dX12_built_57 sM_0 fl_X12_464 (by decide) rfl ?_
      refine jw_iast (pc := 60) (j := 0) dX12_built_60 sM_16 (by decide) rfl (by decide) ?_
      replace h := h _ rfl
      generalize jrI M4 16 (upd (M4.1 16) 0 (M4.1 0 44)) = M5 at h ⊢
      refine jw_aload_n (pc := 61) (j := 0) dX12_built_61 rfl rfl ?_
      refine jw_getR (pc := 62) (r := 16) dX12_built_62 sM_0 fl_X12_69 (by decide) rfl rfl ?_
      refine jw_iconst (pc := 65) (v := 1) dX12_built_65 rfl ?_
      refine jw_aload_n (pc := 66) (j := 0) dX12_built_66 rfl rfl ?_
      refine jw_getI (pc := 67) dX12_built_67 sM_0 fl_X12_467 (by decide) rfl ?_
      refine jw_iast (pc := 70) (j := 1) dX12_built_70 sM_16 (by decide) rfl (by decide) ?_
      replace h := h _ rfl
      generalize jrI M5 16 (upd (M5.1 16) 1 (M5.1 0 45)) = M6 at h ⊢
      refine jw_aload_n (pc := 71) (j := 0) dX12_built_71 rfl rfl ?_
      refine jw_getR (pc := 72) (r := 16) dX12_built_72 sM_0 fl_X12_69 (by decide) rfl rfl ?_
      refine jw_iconst (pc := 75) (v := 2) dX12_built_75 rfl ?_
      refine jw_aload_n (pc := 76) (j := 0) dX12_built_76 rfl rfl ?_
      refine jw_getI (pc := 77) dX12_built_77 sM_0 fl_X12_482 (by decide) rfl ?_
      refine jw_iast (pc := 80) (j := 2) dX12_built_80 sM_16 (by decide) rfl (by decide) ?_
      replace h := h _ rfl
      generalize jrI M6 16 (upd (M6.1 16) 2 (M6.1 0 46)) = M7 at h ⊢
      refine jw_aload_n (pc := 81) (j := 0) dX12_built_81 rfl rfl ?_
      refine jw_iconst (pc := 82) (v := 1) dX12_built_82 rfl ?_
      refine jw_putZ (pc := 83) dX12_built_83 sM_0 fl_X12_509 fw_12_49 (by decide) rfl (Or.inr rfl) ?_
      replace h := h _ rfl
      generalize jrI M7 0 (upd (M7.1 0) 49 (1 : Int32)) = M8 at h ⊢
      refine jw_aload_n (pc := 86) (j := 0) dX12_built_86 rfl rfl ?_
      refine jw_getI (pc := 87) dX12_built_87 sM_0 fl_X12_479 (by decide) rfl ?_
      exact jw_iret (pc := 90) dX12_built_90 rfl ⟨_, rfl, h⟩
    · replace h := h.2 c
      refine jw_aload_n (pc := 39) (j := 0) dX12_built_39 rfl rfl ?_
      refine jw_bipush (pc := 40) (v := 8) dX12_built_40 rfl ?_
      refine jw_callV (pc := 42) (m2 := mX12_refuse) (As := [.int (8 : Int32)]) (st := []) dX12_built_42 sM_0 (by decide) rfl rfl gm_X12_refuse ml_X12_316 rfl (Nat.le_of_ble_eq_true rfl) (JC.mono h ?_)
      clear h
      rintro M9 _ ⟨r1, rfl, h⟩
      refine jw_st (st' := [.int r1]) rfl ?_
      exact jw_iret (pc := 45) dX12_built_45 rfl ⟨_, rfl, h⟩
  · replace h := h.2 ((jb_0 _).mp c)
    refine jw_aload_n (pc := 22) (j := 0) dX12_built_22 rfl rfl ?_
    refine jw_iconst (pc := 23) (v := 5) dX12_built_23 rfl ?_
    refine jw_callV (pc := 24) (m2 := mX12_refuse) (As := [.int (5 : Int32)]) (st := []) dX12_built_24 sM_0 (by decide) rfl rfl gm_X12_refuse ml_X12_316 rfl (Nat.le_of_ble_eq_true rfl) (JC.mono h ?_)
    clear h
    rintro M10 _ ⟨r2, rfl, h⟩
    refine jw_st (st' := [.int r2]) rfl ?_
    exact jw_iret (pc := 27) dX12_built_27 rfl ⟨_, rfl, h⟩
set_option maxRecDepth 20000 in
theorem b_X12_building {x : jX} {d : Nat} {M : jM} {P : jM → Int32 → Prop} {a1 : Int32} 
    (h : ∀ M1, M1 = jrI M 0 (upd (M.1 0) 1 (0 : Int32)) → ∀ M2, M2 = jrI M1 0 (upd (M1.1 0) 0 (0 : Int32)) → JC x jtbM mX12_isIn d [.long a1.toInt64, .long (0 : Int64), .long (2 : Int64)] M2 (jZ fun M3 b1 => (b1 = true → ((M3.1 0 49) = 0 → JC x jtbM mX12_refuse d [.ref (x.2.2.2 0), .int (8 : Int32)] M3 (jI fun M4 r1 => P M4 r1)) ∧ (¬ (M3.1 0 49) = 0 → ∃ j1, j1 < 3 ∧ a1 = nI j1 ∧ (P M3 (M3.1 16 j1)))) ∧ (b1 = false → JC x jtbM mX12_refuse d [.ref (x.2.2.2 0), .int (5 : Int32)] M3 (jI fun M5 r2 => P M5 r2)))) :
    JC x jtbM mX12_building (d + 1) [.ref (x.2.2.2 0), .int a1] M (jI P) := by
  refine JC.of rfl (Nat.le_of_ble_eq_true rfl) ?_
  refine jw_ls (ls' := [(0, .ref (x.2.2.2 0)), (1, .int a1)]) rfl ?_
  refine jw_aload_n (pc := 0) (j := 0) dX12_building_0 rfl rfl ?_
  refine jw_iconst (pc := 1) (v := 0) dX12_building_1 rfl ?_
  refine jw_putI (pc := 2) dX12_building_2 sM_0 fl_X12_81 fw_12_1 (by decide) rfl ?_
  replace h := h _ rfl
  generalize jrI M 0 (upd (M.1 0) 1 (0 : Int32)) = M1 at h ⊢
  refine jw_aload_n (pc := 5) (j := 0) dX12_building_5 rfl rfl ?_
  refine jw_iconst (pc := 6) (v := 0) dX12_building_6 rfl ?_
  refine jw_putI (pc := 7) dX12_building_7 sM_0 fl_X12_84 fw_12_0 (by decide) rfl ?_
  replace h := h _ rfl
  generalize jrI M1 0 (upd (M1.1 0) 0 (0 : Int32)) = M2 at h ⊢
  refine jw_iload_n (pc := 10) (j := 1) dX12_building_10 rfl rfl ?_
  refine jw_i2l (pc := 11) dX12_building_11 ?_
  refine jw_lconst (pc := 12) (v := 0) dX12_building_12 rfl ?_
  refine jw_ldc2 (pc := 13) (v := 2) dX12_building_13 kl_X12_314 ?_
  refine jw_callS (pc := 16) (m2 := mX12_isIn) (As := [.long a1.toInt64, .long (0 : Int64), .long (2 : Int64)]) (st := []) dX12_building_16 gm_X12_isIn ml_X12_116 rfl (Nat.le_of_ble_eq_true rfl) (JC.mono h ?_)
  clear h
  rintro M3 _ ⟨b1, rfl, h⟩
  refine jw_st (st' := [.int (jb b1)]) rfl ?_
  refine jw_if_ne (pc := 19) (tgt := 28) dX12_building_19 (by decide) (fun c => ?_) (fun c => ?_)
  · replace h := h.1 (jb_ne c)
    refine jw_aload_n (pc := 28) (j := 0) dX12_building_28 rfl rfl ?_
    refine jw_getI (pc := 29) dX12_building_29 sM_0 fl_X12_509 (by decide) rfl ?_
    refine jw_if_eq (pc := 32) (tgt := 44) dX12_building_32 (by decide) (fun c => ?_) (fun c => ?_)
    · replace h := h.1 c
      refine jw_aload_n (pc := 44) (j := 0) dX12_building_44 rfl rfl ?_
      refine jw_bipush (pc := 45) (v := 8) dX12_building_45 rfl ?_
      refine jw_callV (pc := 47) (m2 := mX12_refuse) (As := [.int (8 : Int32)]) (st := []) dX12_building_47 sM_0 (by decide) rfl rfl gm_X12_refuse ml_X12_316 rfl (Nat.le_of_ble_eq_true rfl) (JC.mono h ?_)
      clear h
      rintro M4 _ ⟨r1, rfl, h⟩
      refine jw_st (st' := [.int r1]) rfl ?_
      exact jw_iret (pc := 50) dX12_building_50 rfl ⟨_, rfl, h⟩
    · replace h := h.2 c
      refine jw_aload_n (pc := 35) (j := 0) dX12_building_35 rfl rfl ?_
      refine jw_getR (pc := 36) (r := 16) dX12_building_36 sM_0 fl_X12_69 (by decide) rfl rfl ?_
      refine jw_iload_n (pc := 39) (j := 1) dX12_building_39 rfl rfl ?_
      obtain ⟨j1, hj1, ej1, h⟩ := h
      refine jw_iald (pc := 40) (j := j1) dX12_building_40 sM_16 hj1 ej1 (by decide) ?_
      refine jw_goto (pc := 41) (tgt := 50) dX12_building_41 (by decide) ?_
      exact jw_iret (pc := 50) dX12_building_50 rfl ⟨_, rfl, h⟩
  · replace h := h.2 ((jb_0 _).mp c)
    refine jw_aload_n (pc := 22) (j := 0) dX12_building_22 rfl rfl ?_
    refine jw_iconst (pc := 23) (v := 5) dX12_building_23 rfl ?_
    refine jw_callV (pc := 24) (m2 := mX12_refuse) (As := [.int (5 : Int32)]) (st := []) dX12_building_24 sM_0 (by decide) rfl rfl gm_X12_refuse ml_X12_316 rfl (Nat.le_of_ble_eq_true rfl) (JC.mono h ?_)
    clear h
    rintro M5 _ ⟨r2, rfl, h⟩
    refine jw_st (st' := [.int r2]) rfl ?_
    exact jw_iret (pc := 27) dX12_building_27 rfl ⟨_, rfl, h⟩
set_option maxRecDepth 20000 in
theorem b_X12_tally {x : jX} {d : Nat} {M : jM} {P : jM → Int32 → Prop} {a1 : Int32} {a2 : Int32} 
    (h : ∀ M1, M1 = jrI M 0 (upd (M.1 0) 1 (0 : Int32)) → ∀ M2, M2 = jrI M1 0 (upd (M1.1 0) 0 (0 : Int32)) → JC x jtbM mX12_isIn d [.long a2.toInt64, .long (1 : Int64), .long (30 : Int64)] M2 (jZ fun M3 b1 => (b1 = false → JC x jtbM mX12_refuse d [.ref (x.2.2.2 0), .int (5 : Int32)] M3 (jI fun M4 r1 => P M4 r1)) ∧ (b1 = true → JC x jtbM mX12_isIn d [.long a1.toInt64, .long (0 : Int64), .long (((10000 : Int32) - a2).toInt64)] M3 (jZ fun M5 b2 => (b2 = true → (¬ (M5.1 5 169) = 0 → JW x jtbM mX12_tally (d + 1) (jI P) 63 [(0, .ref (x.2.2.2 0)), (1, .int a1), (2, .int a2), (3, .int (0 : Int32))] [] M5) ∧ ((M5.1 5 169) = 0 → JC x jtbM mX12_refuse d [.ref (x.2.2.2 0), .int (8 : Int32)] M5 (jI fun M6 r2 => P M6 r2))) ∧ (b2 = false → JC x jtbM mX12_refuse d [.ref (x.2.2.2 0), .int (5 : Int32)] M5 (jI fun M7 r3 => P M7 r3)))))) :
    JC x jtbM mX12_tally (d + 1) [.ref (x.2.2.2 0), .int a1, .int a2] M (jI P) := by
  refine JC.of rfl (Nat.le_of_ble_eq_true rfl) ?_
  refine jw_ls (ls' := [(0, .ref (x.2.2.2 0)), (1, .int a1), (2, .int a2)]) rfl ?_
  refine jw_aload_n (pc := 0) (j := 0) dX12_tally_0 rfl rfl ?_
  refine jw_iconst (pc := 1) (v := 0) dX12_tally_1 rfl ?_
  refine jw_putI (pc := 2) dX12_tally_2 sM_0 fl_X12_81 fw_12_1 (by decide) rfl ?_
  replace h := h _ rfl
  generalize jrI M 0 (upd (M.1 0) 1 (0 : Int32)) = M1 at h ⊢
  refine jw_aload_n (pc := 5) (j := 0) dX12_tally_5 rfl rfl ?_
  refine jw_iconst (pc := 6) (v := 0) dX12_tally_6 rfl ?_
  refine jw_putI (pc := 7) dX12_tally_7 sM_0 fl_X12_84 fw_12_0 (by decide) rfl ?_
  replace h := h _ rfl
  generalize jrI M1 0 (upd (M1.1 0) 0 (0 : Int32)) = M2 at h ⊢
  refine jw_iload_n (pc := 10) (j := 2) dX12_tally_10 rfl rfl ?_
  refine jw_i2l (pc := 11) dX12_tally_11 ?_
  refine jw_lconst (pc := 12) (v := 1) dX12_tally_12 rfl ?_
  refine jw_ldc2 (pc := 13) (v := 30) dX12_tally_13 kl_X12_512 ?_
  refine jw_callS (pc := 16) (m2 := mX12_isIn) (As := [.long a2.toInt64, .long (1 : Int64), .long (30 : Int64)]) (st := []) dX12_tally_16 gm_X12_isIn ml_X12_116 rfl (Nat.le_of_ble_eq_true rfl) (JC.mono h ?_)
  clear h
  rintro M3 _ ⟨b1, rfl, h⟩
  refine jw_st (st' := [.int (jb b1)]) rfl ?_
  refine jw_if_eq (pc := 19) (tgt := 37) dX12_tally_19 (by decide) (fun c => ?_) (fun c => ?_)
  · replace h := h.1 ((jb_0 _).mp c)
    refine jw_aload_n (pc := 37) (j := 0) dX12_tally_37 rfl rfl ?_
    refine jw_iconst (pc := 38) (v := 5) dX12_tally_38 rfl ?_
    refine jw_callV (pc := 39) (m2 := mX12_refuse) (As := [.int (5 : Int32)]) (st := []) dX12_tally_39 sM_0 (by decide) rfl rfl gm_X12_refuse ml_X12_316 rfl (Nat.le_of_ble_eq_true rfl) (JC.mono h ?_)
    clear h
    rintro M4 _ ⟨r1, rfl, h⟩
    refine jw_st (st' := [.int r1]) rfl ?_
    exact jw_iret (pc := 42) dX12_tally_42 rfl ⟨_, rfl, h⟩
  · replace h := h.2 (jb_ne c)
    refine jw_iload_n (pc := 22) (j := 1) dX12_tally_22 rfl rfl ?_
    refine jw_i2l (pc := 23) dX12_tally_23 ?_
    refine jw_lconst (pc := 24) (v := 0) dX12_tally_24 rfl ?_
    refine jw_sipush (pc := 25) (v := 10000) dX12_tally_25 rfl ?_
    refine jw_iload_n (pc := 28) (j := 2) dX12_tally_28 rfl rfl ?_
    refine jw_isub (pc := 29) dX12_tally_29 ?_
    refine jw_i2l (pc := 30) dX12_tally_30 ?_
    refine jw_callS (pc := 31) (m2 := mX12_isIn) (As := [.long a1.toInt64, .long (0 : Int64), .long (((10000 : Int32) - a2).toInt64)]) (st := []) dX12_tally_31 gm_X12_isIn ml_X12_116 rfl (Nat.le_of_ble_eq_true rfl) (JC.mono h ?_)
    clear h
    rintro M5 _ ⟨b2, rfl, h⟩
    refine jw_st (st' := [.int (jb b2)]) rfl ?_
    refine jw_if_ne (pc := 34) (tgt := 43) dX12_tally_34 (by decide) (fun c => ?_) (fun c => ?_)
    · replace h := h.1 (jb_ne c)
      refine jw_aload_n (pc := 43) (j := 0) dX12_tally_43 rfl rfl ?_
      refine jw_getR (pc := 44) (r := 5) dX12_tally_44 sM_0 fl_X12_35 (by decide) rfl rfl ?_
      refine jw_sipush (pc := 47) (v := 169) dX12_tally_47 rfl ?_
      refine jw_iald (pc := 50) (j := 169) dX12_tally_50 sM_5 (by decide) rfl (by decide) ?_
      refine jw_if_ne (pc := 51) (tgt := 61) dX12_tally_51 (by decide) (fun c => ?_) (fun c => ?_)
      · replace h := h.1 c
        refine jw_iconst (pc := 61) (v := 0) dX12_tally_61 rfl ?_
        refine jw_istore_n (pc := 62) (ls' := [(3, .int (0 : Int32)), (0, .ref (x.2.2.2 0)), (1, .int a1), (2, .int a2)]) dX12_tally_62 rfl (by decide) rfl ?_
        exact jw_sub [1, 2, 3, 0] rfl h
      · replace h := h.2 c
        refine jw_aload_n (pc := 54) (j := 0) dX12_tally_54 rfl rfl ?_
        refine jw_bipush (pc := 55) (v := 8) dX12_tally_55 rfl ?_
        refine jw_callV (pc := 57) (m2 := mX12_refuse) (As := [.int (8 : Int32)]) (st := []) dX12_tally_57 sM_0 (by decide) rfl rfl gm_X12_refuse ml_X12_316 rfl (Nat.le_of_ble_eq_true rfl) (JC.mono h ?_)
        clear h
        rintro M6 _ ⟨r2, rfl, h⟩
        refine jw_st (st' := [.int r2]) rfl ?_
        exact jw_iret (pc := 60) dX12_tally_60 rfl ⟨_, rfl, h⟩
    · replace h := h.2 ((jb_0 _).mp c)
      refine jw_aload_n (pc := 37) (j := 0) dX12_tally_37 rfl rfl ?_
      refine jw_iconst (pc := 38) (v := 5) dX12_tally_38 rfl ?_
      refine jw_callV (pc := 39) (m2 := mX12_refuse) (As := [.int (5 : Int32)]) (st := []) dX12_tally_39 sM_0 (by decide) rfl rfl gm_X12_refuse ml_X12_316 rfl (Nat.le_of_ble_eq_true rfl) (JC.mono h ?_)
      clear h
      rintro M7 _ ⟨r3, rfl, h⟩
      refine jw_st (st' := [.int r3]) rfl ?_
      exact jw_iret (pc := 42) dX12_tally_42 rfl ⟨_, rfl, h⟩
set_option maxRecDepth 20000 in
theorem b_X12_tally_63 {x : jX} {d : Nat} {M : jM} {P : jM → Int32 → Prop} {l1 : Int32} {l2 : Int32} {l3 : Int32} 
    (h : JC x jtbM mX12_cells d [.ref (x.2.2.2 0)] M (jI fun M1 r1 => (r1 ≤ l3 → JW x jtbM mX12_tally (d + 1) (jI P) 98 [(0, .ref (x.2.2.2 0)), (1, .int l1), (2, .int l2), (3, .int (0 : Int32)), (4, .int (0 : Int32))] [] M1) ∧ (¬ r1 ≤ l3 → ∃ j1, j1 < 2060 ∧ (144 : Int32) + l3 = nI j1 ∧ (∃ j2, j2 < 25 ∧ l3 = nI j2 ∧ (∀ M2, M2 = jrI M1 17 (upd (M1.1 17) j2 (M1.1 5 j1)) → JW x jtbM mX12_tally (d + 1) (jI P) 63 [(0, .ref (x.2.2.2 0)), (1, .int l1), (2, .int l2), (3, .int (l3 + 1))] [] M2))))) :
    JW x jtbM mX12_tally (d + 1) (jI P) 63 [(0, .ref (x.2.2.2 0)), (1, .int l1), (2, .int l2), (3, .int l3)] [] M := by
  refine jw_iload_n (pc := 63) (j := 3) dX12_tally_63 rfl rfl ?_
  refine jw_aload_n (pc := 64) (j := 0) dX12_tally_64 rfl rfl ?_
  refine jw_callV (pc := 65) (m2 := mX12_cells) (As := []) (st := [.int l3]) dX12_tally_65 sM_0 (by decide) rfl rfl gm_X12_cells ml_X12_305 rfl (Nat.le_of_ble_eq_true rfl) (JC.mono h ?_)
  clear h
  rintro M1 _ ⟨r1, rfl, h⟩
  refine jw_st (st' := [.int r1, .int l3]) rfl ?_
  refine jw_icmp_ge (pc := 68) (tgt := 93) dX12_tally_68 (by decide) (fun c => ?_) (fun c => ?_)
  · replace h := h.1 c
    refine jw_iconst (pc := 93) (v := 0) dX12_tally_93 rfl ?_
    refine jw_istore_n (pc := 94) (ls' := [(3, .int (0 : Int32)), (0, .ref (x.2.2.2 0)), (1, .int l1), (2, .int l2)]) dX12_tally_94 rfl (by decide) rfl ?_
    refine jw_iconst (pc := 95) (v := 0) dX12_tally_95 rfl ?_
    refine jw_istore (pc := 96) (ls' := [(4, .int (0 : Int32)), (3, .int (0 : Int32)), (0, .ref (x.2.2.2 0)), (1, .int l1), (2, .int l2)]) dX12_tally_96 (by decide) rfl ?_
    exact jw_sub [2, 3, 4, 1, 0] rfl h
  · replace h := h.2 c
    refine jw_aload_n (pc := 71) (j := 0) dX12_tally_71 rfl rfl ?_
    refine jw_getR (pc := 72) (r := 17) dX12_tally_72 sM_0 fl_X12_72 (by decide) rfl rfl ?_
    refine jw_iload_n (pc := 75) (j := 3) dX12_tally_75 rfl rfl ?_
    refine jw_aload_n (pc := 76) (j := 0) dX12_tally_76 rfl rfl ?_
    refine jw_getR (pc := 77) (r := 5) dX12_tally_77 sM_0 fl_X12_35 (by decide) rfl rfl ?_
    refine jw_sipush (pc := 80) (v := 144) dX12_tally_80 rfl ?_
    refine jw_iload_n (pc := 83) (j := 3) dX12_tally_83 rfl rfl ?_
    refine jw_iadd (pc := 84) dX12_tally_84 ?_
    obtain ⟨j1, hj1, ej1, h⟩ := h
    refine jw_iald (pc := 85) (j := j1) dX12_tally_85 sM_5 hj1 ej1 (by decide) ?_
    obtain ⟨j2, hj2, ej2, h⟩ := h
    refine jw_iast (pc := 86) (j := j2) dX12_tally_86 sM_17 hj2 ej2 (by decide) ?_
    replace h := h _ rfl
    generalize jrI M1 17 (upd (M1.1 17) j2 (M1.1 5 j1)) = M2 at h ⊢
    refine jw_iinc (pc := 87) (j := 3) (u := l3 + 1) (ls' := [(3, .int (l3 + 1)), (0, .ref (x.2.2.2 0)), (1, .int l1), (2, .int l2)]) dX12_tally_87 rfl rfl (by decide) rfl ?_
    refine jw_goto (pc := 90) (tgt := 63) dX12_tally_90 (by decide) ?_
    exact jw_sub [1, 2, 3, 0] rfl h
set_option maxRecDepth 20000 in
theorem b_X12_tally_98 {x : jX} {d : Nat} {M : jM} {P : jM → Int32 → Prop} {l1 : Int32} {l2 : Int32} {l3 : Int32} {l4 : Int32} 
    (h : (l2 ≤ l4 → P M l3) ∧ (¬ l2 ≤ l4 → JC x jtbM mX12_run d [.ref (x.2.2.2 0), .int (l1 + l4)] M (jV fun M1 => JW x jtbM mX12_tally (d + 1) (jI P) 118 [(0, .ref (x.2.2.2 0)), (1, .int l1), (2, .int l2), (3, .int l3), (4, .int l4), (5, .int (1 : Int32)), (6, .int (0 : Int32))] [] M1))) :
    JW x jtbM mX12_tally (d + 1) (jI P) 98 [(0, .ref (x.2.2.2 0)), (1, .int l1), (2, .int l2), (3, .int l3), (4, .int l4)] [] M := by
  refine jw_iload (pc := 98) (j := 4) dX12_tally_98 rfl ?_
  refine jw_iload_n (pc := 100) (j := 2) dX12_tally_100 rfl rfl ?_
  refine jw_icmp_ge (pc := 101) (tgt := 224) dX12_tally_101 (by decide) (fun c => ?_) (fun c => ?_)
  · replace h := h.1 c
    refine jw_iload_n (pc := 224) (j := 3) dX12_tally_224 rfl rfl ?_
    exact jw_iret (pc := 225) dX12_tally_225 rfl ⟨_, rfl, h⟩
  · replace h := h.2 c
    refine jw_aload_n (pc := 104) (j := 0) dX12_tally_104 rfl rfl ?_
    refine jw_iload_n (pc := 105) (j := 1) dX12_tally_105 rfl rfl ?_
    refine jw_iload (pc := 106) (j := 4) dX12_tally_106 rfl ?_
    refine jw_iadd (pc := 108) dX12_tally_108 ?_
    refine jw_callV (pc := 109) (m2 := mX12_run) (As := [.int (l1 + l4)]) (st := []) dX12_tally_109 sM_0 (by decide) rfl rfl gm_X12_run ml_X12_506 rfl (Nat.le_of_ble_eq_true rfl) (JC.mono h ?_)
    clear h
    rintro M1 _ ⟨rfl, h⟩
    refine jw_st (st' := []) rfl ?_
    refine jw_iconst (pc := 112) (v := 1) dX12_tally_112 rfl ?_
    refine jw_istore (pc := 113) (ls' := [(5, .int (1 : Int32)), (0, .ref (x.2.2.2 0)), (1, .int l1), (2, .int l2), (3, .int l3), (4, .int l4)]) dX12_tally_113 (by decide) rfl ?_
    refine jw_iconst (pc := 115) (v := 0) dX12_tally_115 rfl ?_
    refine jw_istore (pc := 116) (ls' := [(6, .int (0 : Int32)), (5, .int (1 : Int32)), (0, .ref (x.2.2.2 0)), (1, .int l1), (2, .int l2), (3, .int l3), (4, .int l4)]) dX12_tally_116 (by decide) rfl ?_
    exact jw_sub [2, 3, 4, 5, 6, 1, 0] rfl h
set_option maxRecDepth 20000 in
theorem b_X12_tally_118 {x : jX} {d : Nat} {M : jM} {P : jM → Int32 → Prop} {l1 : Int32} {l2 : Int32} {l3 : Int32} {l4 : Int32} {l5 : Int32} {l6 : Int32} 
    (h : ((M.1 5 2) ≤ l6 → (l5 = 0 → JW x jtbM mX12_tally (d + 1) (jI P) 185 [(0, .ref (x.2.2.2 0)), (1, .int l1), (2, .int l2), (3, .int (l3 + (0 : Int32))), (4, .int l4), (6, .int (0 : Int32))] [] M) ∧ (¬ l5 = 0 → JW x jtbM mX12_tally (d + 1) (jI P) 185 [(0, .ref (x.2.2.2 0)), (1, .int l1), (2, .int l2), (3, .int (l3 + (1 : Int32))), (4, .int l4), (6, .int (0 : Int32))] [] M)) ∧ (¬ (M.1 5 2) ≤ l6 → (l5 = 0 → JW x jtbM mX12_tally (d + 1) (jI P) 118 [(0, .ref (x.2.2.2 0)), (1, .int l1), (2, .int l2), (3, .int l3), (4, .int l4), (5, .int (0 : Int32)), (6, .int (l6 + 1))] [] M) ∧ (¬ l5 = 0 → ∃ j1, j1 < 2060 ∧ (84 : Int32) + l6 = nI j1 ∧ (((M.1 5 j1) = 0 → JW x jtbM mX12_tally (d + 1) (jI P) 118 [(0, .ref (x.2.2.2 0)), (1, .int l1), (2, .int l2), (3, .int l3), (4, .int l4), (5, .int (1 : Int32)), (6, .int (l6 + 1))] [] M) ∧ (¬ (M.1 5 j1) = 0 → JC x jtbM mX12_seesSame d [.ref (x.2.2.2 0), .int l6] M (jZ fun M1 b1 => (b1 = false → JW x jtbM mX12_tally (d + 1) (jI P) 118 [(0, .ref (x.2.2.2 0)), (1, .int l1), (2, .int l2), (3, .int l3), (4, .int l4), (5, .int (0 : Int32)), (6, .int (l6 + 1))] [] M1) ∧ (b1 = true → JW x jtbM mX12_tally (d + 1) (jI P) 118 [(0, .ref (x.2.2.2 0)), (1, .int l1), (2, .int l2), (3, .int l3), (4, .int l4), (5, .int (1 : Int32)), (6, .int (l6 + 1))] [] M1))))))) :
    JW x jtbM mX12_tally (d + 1) (jI P) 118 [(0, .ref (x.2.2.2 0)), (1, .int l1), (2, .int l2), (3, .int l3), (4, .int l4), (5, .int l5), (6, .int l6)] [] M := by
  refine jw_iload (pc := 118) (j := 6) dX12_tally_118 rfl ?_
  refine jw_aload_n (pc := 120) (j := 0) dX12_tally_120 rfl rfl ?_
  refine jw_getR (pc := 121) (r := 5) dX12_tally_121 sM_0 fl_X12_35 (by decide) rfl rfl ?_
  refine jw_iconst (pc := 124) (v := 2) dX12_tally_124 rfl ?_
  refine jw_iald (pc := 125) (j := 2) dX12_tally_125 sM_5 (by decide) rfl (by decide) ?_
  refine jw_icmp_ge (pc := 126) (tgt := 169) dX12_tally_126 (by decide) (fun c => ?_) (fun c => ?_)
  · replace h := h.1 c
    refine jw_iload_n (pc := 169) (j := 3) dX12_tally_169 rfl rfl ?_
    refine jw_iload (pc := 170) (j := 5) dX12_tally_170 rfl ?_
    refine jw_if_eq (pc := 172) (tgt := 179) dX12_tally_172 (by decide) (fun c => ?_) (fun c => ?_)
    · replace h := h.1 c
      refine jw_iconst (pc := 179) (v := 0) dX12_tally_179 rfl ?_
      refine jw_iadd (pc := 180) dX12_tally_180 ?_
      refine jw_istore_n (pc := 181) (ls' := [(3, .int (l3 + (0 : Int32))), (0, .ref (x.2.2.2 0)), (1, .int l1), (2, .int l2), (4, .int l4), (5, .int l5), (6, .int l6)]) dX12_tally_181 rfl (by decide) rfl ?_
      refine jw_iconst (pc := 182) (v := 0) dX12_tally_182 rfl ?_
      refine jw_istore (pc := 183) (ls' := [(6, .int (0 : Int32)), (3, .int (l3 + (0 : Int32))), (0, .ref (x.2.2.2 0)), (1, .int l1), (2, .int l2), (4, .int l4), (5, .int l5)]) dX12_tally_183 (by decide) rfl ?_
      exact jw_sub [2, 3, 4, 1, 5, 0] rfl h
    · replace h := h.2 c
      refine jw_iconst (pc := 175) (v := 1) dX12_tally_175 rfl ?_
      refine jw_goto (pc := 176) (tgt := 180) dX12_tally_176 (by decide) ?_
      refine jw_iadd (pc := 180) dX12_tally_180 ?_
      refine jw_istore_n (pc := 181) (ls' := [(3, .int (l3 + (1 : Int32))), (0, .ref (x.2.2.2 0)), (1, .int l1), (2, .int l2), (4, .int l4), (5, .int l5), (6, .int l6)]) dX12_tally_181 rfl (by decide) rfl ?_
      refine jw_iconst (pc := 182) (v := 0) dX12_tally_182 rfl ?_
      refine jw_istore (pc := 183) (ls' := [(6, .int (0 : Int32)), (3, .int (l3 + (1 : Int32))), (0, .ref (x.2.2.2 0)), (1, .int l1), (2, .int l2), (4, .int l4), (5, .int l5)]) dX12_tally_183 (by decide) rfl ?_
      exact jw_sub [2, 3, 4, 1, 5, 0] rfl h
  · replace h := h.2 c
    refine jw_iload (pc := 129) (j := 5) dX12_tally_129 rfl ?_
    refine jw_if_eq (pc := 131) (tgt := 160) dX12_tally_131 (by decide) (fun c => ?_) (fun c => ?_)
    · replace h := h.1 c
      refine jw_iconst (pc := 160) (v := 0) dX12_tally_160 rfl ?_
      refine jw_istore (pc := 161) (ls' := [(5, .int (0 : Int32)), (0, .ref (x.2.2.2 0)), (1, .int l1), (2, .int l2), (3, .int l3), (4, .int l4), (6, .int l6)]) dX12_tally_161 (by decide) rfl ?_
      refine jw_iinc (pc := 163) (j := 6) (u := l6 + 1) (ls' := [(6, .int (l6 + 1)), (5, .int (0 : Int32)), (0, .ref (x.2.2.2 0)), (1, .int l1), (2, .int l2), (3, .int l3), (4, .int l4)]) dX12_tally_163 rfl rfl (by decide) rfl ?_
      refine jw_goto (pc := 166) (tgt := 118) dX12_tally_166 (by decide) ?_
      exact jw_sub [2, 3, 4, 5, 6, 1, 0] rfl h
    · replace h := h.2 c
      refine jw_aload_n (pc := 134) (j := 0) dX12_tally_134 rfl rfl ?_
      refine jw_getR (pc := 135) (r := 5) dX12_tally_135 sM_0 fl_X12_35 (by decide) rfl rfl ?_
      refine jw_bipush (pc := 138) (v := 84) dX12_tally_138 rfl ?_
      refine jw_iload (pc := 140) (j := 6) dX12_tally_140 rfl ?_
      refine jw_iadd (pc := 142) dX12_tally_142 ?_
      obtain ⟨j1, hj1, ej1, h⟩ := h
      refine jw_iald (pc := 143) (j := j1) dX12_tally_143 sM_5 hj1 ej1 (by decide) ?_
      refine jw_if_eq (pc := 144) (tgt := 156) dX12_tally_144 (by decide) (fun c => ?_) (fun c => ?_)
      · replace h := h.1 c
        refine jw_iconst (pc := 156) (v := 1) dX12_tally_156 rfl ?_
        refine jw_goto (pc := 157) (tgt := 161) dX12_tally_157 (by decide) ?_
        refine jw_istore (pc := 161) (ls' := [(5, .int (1 : Int32)), (0, .ref (x.2.2.2 0)), (1, .int l1), (2, .int l2), (3, .int l3), (4, .int l4), (6, .int l6)]) dX12_tally_161 (by decide) rfl ?_
        refine jw_iinc (pc := 163) (j := 6) (u := l6 + 1) (ls' := [(6, .int (l6 + 1)), (5, .int (1 : Int32)), (0, .ref (x.2.2.2 0)), (1, .int l1), (2, .int l2), (3, .int l3), (4, .int l4)]) dX12_tally_163 rfl rfl (by decide) rfl ?_
        refine jw_goto (pc := 166) (tgt := 118) dX12_tally_166 (by decide) ?_
        exact jw_sub [2, 3, 4, 5, 6, 1, 0] rfl h
      · replace h := h.2 c
        refine jw_aload_n (pc := 147) (j := 0) dX12_tally_147 rfl rfl ?_
        refine jw_iload (pc := 148) (j := 6) dX12_tally_148 rfl ?_
        refine jw_callV (pc := 150) (m2 := mX12_seesSame) (As := [.int l6]) (st := []) dX12_tally_150 sM_0 (by decide) rfl rfl gm_X12_seesSame ml_X12_476 rfl (Nat.le_of_ble_eq_true rfl) (JC.mono h ?_)
        clear h
        rintro M1 _ ⟨b1, rfl, h⟩
        refine jw_st (st' := [.int (jb b1)]) rfl ?_
        refine jw_if_eq (pc := 153) (tgt := 160) dX12_tally_153 (by decide) (fun c => ?_) (fun c => ?_)
        · replace h := h.1 ((jb_0 _).mp c)
          refine jw_iconst (pc := 160) (v := 0) dX12_tally_160 rfl ?_
          refine jw_istore (pc := 161) (ls' := [(5, .int (0 : Int32)), (0, .ref (x.2.2.2 0)), (1, .int l1), (2, .int l2), (3, .int l3), (4, .int l4), (6, .int l6)]) dX12_tally_161 (by decide) rfl ?_
          refine jw_iinc (pc := 163) (j := 6) (u := l6 + 1) (ls' := [(6, .int (l6 + 1)), (5, .int (0 : Int32)), (0, .ref (x.2.2.2 0)), (1, .int l1), (2, .int l2), (3, .int l3), (4, .int l4)]) dX12_tally_163 rfl rfl (by decide) rfl ?_
          refine jw_goto (pc := 166) (tgt := 118) dX12_tally_166 (by decide) ?_
          exact jw_sub [2, 3, 4, 5, 6, 1, 0] rfl h
        · replace h := h.2 (jb_ne c)
          refine jw_iconst (pc := 156) (v := 1) dX12_tally_156 rfl ?_
          refine jw_goto (pc := 157) (tgt := 161) dX12_tally_157 (by decide) ?_
          refine jw_istore (pc := 161) (ls' := [(5, .int (1 : Int32)), (0, .ref (x.2.2.2 0)), (1, .int l1), (2, .int l2), (3, .int l3), (4, .int l4), (6, .int l6)]) dX12_tally_161 (by decide) rfl ?_
          refine jw_iinc (pc := 163) (j := 6) (u := l6 + 1) (ls' := [(6, .int (l6 + 1)), (5, .int (1 : Int32)), (0, .ref (x.2.2.2 0)), (1, .int l1), (2, .int l2), (3, .int l3), (4, .int l4)]) dX12_tally_163 rfl rfl (by decide) rfl ?_
          refine jw_goto (pc := 166) (tgt := 118) dX12_tally_166 (by decide) ?_
          exact jw_sub [2, 3, 4, 5, 6, 1, 0] rfl h
set_option maxRecDepth 20000 in
theorem b_X12_tally_185 {x : jX} {d : Nat} {M : jM} {P : jM → Int32 → Prop} {l1 : Int32} {l2 : Int32} {l3 : Int32} {l4 : Int32} {l6 : Int32} 
    (h : JC x jtbM mX12_cells d [.ref (x.2.2.2 0)] M (jI fun M1 r1 => (r1 ≤ l6 → JW x jtbM mX12_tally (d + 1) (jI P) 98 [(0, .ref (x.2.2.2 0)), (1, .int l1), (2, .int l2), (3, .int l3), (4, .int (l4 + 1))] [] M1) ∧ (¬ r1 ≤ l6 → ∃ j1, j1 < 25 ∧ l6 = nI j1 ∧ (∃ j2, j2 < 2060 ∧ (144 : Int32) + l6 = nI j2 ∧ (∀ M2, M2 = jrI M1 5 (upd (M1.1 5) j2 (M1.1 17 j1)) → JW x jtbM mX12_tally (d + 1) (jI P) 185 [(0, .ref (x.2.2.2 0)), (1, .int l1), (2, .int l2), (3, .int l3), (4, .int l4), (6, .int (l6 + 1))] [] M2))))) :
    JW x jtbM mX12_tally (d + 1) (jI P) 185 [(0, .ref (x.2.2.2 0)), (1, .int l1), (2, .int l2), (3, .int l3), (4, .int l4), (6, .int l6)] [] M := by
  refine jw_iload (pc := 185) (j := 5) dX12_tally_185 rfl ?_
  refine jw_aload_n (pc := 187) (j := 0) dX12_tally_187 rfl rfl ?_
  refine jw_callV (pc := 188) (m2 := mX12_cells) (As := []) (st := [.int l6]) dX12_tally_188 sM_0 (by decide) rfl rfl gm_X12_cells ml_X12_305 rfl (Nat.le_of_ble_eq_true rfl) (JC.mono h ?_)
  clear h
  rintro M1 _ ⟨r1, rfl, h⟩
  refine jw_st (st' := [.int r1, .int l6]) rfl ?_
  refine jw_icmp_ge (pc := 191) (tgt := 218) dX12_tally_191 (by decide) (fun c => ?_) (fun c => ?_)
  · replace h := h.1 c
    refine jw_iinc (pc := 218) (j := 4) (u := l4 + 1) (ls' := [(4, .int (l4 + 1)), (0, .ref (x.2.2.2 0)), (1, .int l1), (2, .int l2), (3, .int l3), (6, .int l6)]) dX12_tally_218 rfl rfl (by decide) rfl ?_
    refine jw_goto (pc := 221) (tgt := 98) dX12_tally_221 (by decide) ?_
    exact jw_sub [1, 2, 3, 4, 0] rfl h
  · replace h := h.2 c
    refine jw_aload_n (pc := 194) (j := 0) dX12_tally_194 rfl rfl ?_
    refine jw_getR (pc := 195) (r := 5) dX12_tally_195 sM_0 fl_X12_35 (by decide) rfl rfl ?_
    refine jw_sipush (pc := 198) (v := 144) dX12_tally_198 rfl ?_
    refine jw_iload (pc := 201) (j := 5) dX12_tally_201 rfl ?_
    refine jw_iadd (pc := 203) dX12_tally_203 ?_
    refine jw_aload_n (pc := 204) (j := 0) dX12_tally_204 rfl rfl ?_
    refine jw_getR (pc := 205) (r := 17) dX12_tally_205 sM_0 fl_X12_72 (by decide) rfl rfl ?_
    refine jw_iload (pc := 208) (j := 5) dX12_tally_208 rfl ?_
    obtain ⟨j1, hj1, ej1, h⟩ := h
    refine jw_iald (pc := 210) (j := j1) dX12_tally_210 sM_17 hj1 ej1 (by decide) ?_
    obtain ⟨j2, hj2, ej2, h⟩ := h
    refine jw_iast (pc := 211) (j := j2) dX12_tally_211 sM_5 hj2 ej2 (by decide) ?_
    replace h := h _ rfl
    generalize jrI M1 5 (upd (M1.1 5) j2 (M1.1 17 j1)) = M2 at h ⊢
    refine jw_iinc (pc := 212) (j := 5) (u := l6 + 1) (ls' := [(6, .int (l6 + 1)), (0, .ref (x.2.2.2 0)), (1, .int l1), (2, .int l2), (3, .int l3), (4, .int l4)]) dX12_tally_212 rfl rfl (by decide) rfl ?_
    refine jw_goto (pc := 215) (tgt := 185) dX12_tally_215 (by decide) ?_
    exact jw_sub [1, 2, 3, 4, 5, 0] rfl h
set_option maxRecDepth 20000 in
theorem b_X12_copy {x : jX} {d : Nat} {M : jM} {P : jM → Prop} {a1 : Int32} {a2 : Int32} 
    (h : JW x jtbM mX12_copy d (jV P) 2 [(0, .ref (x.2.2.2 0)), (1, .int a1), (2, .int a2), (3, .int (0 : Int32))] [] M) :
    JC x jtbM mX12_copy d [.ref (x.2.2.2 0), .int a1, .int a2] M (jV P) := by
  refine JC.of rfl (Nat.le_of_ble_eq_true rfl) ?_
  refine jw_ls (ls' := [(0, .ref (x.2.2.2 0)), (1, .int a1), (2, .int a2)]) rfl ?_
  refine jw_iconst (pc := 0) (v := 0) dX12_copy_0 rfl ?_
  refine jw_istore_n (pc := 1) (ls' := [(3, .int (0 : Int32)), (0, .ref (x.2.2.2 0)), (1, .int a1), (2, .int a2)]) dX12_copy_1 rfl (by decide) rfl ?_
  exact jw_sub [1, 2, 3, 0] rfl h
set_option maxRecDepth 20000 in
theorem b_X12_copy_2 {x : jX} {d : Nat} {M : jM} {P : jM → Prop} {l1 : Int32} {l2 : Int32} {l3 : Int32} 
    (h : ((412 : Int32) ≤ l3 → JW x jtbM mX12_copy d (jV P) 41 [(0, .ref (x.2.2.2 0)), (1, .int l1), (2, .int l2), (3, .int (0 : Int32))] [] M) ∧ (¬ (412 : Int32) ≤ l3 → ∃ j1, j1 < 2060 ∧ ((412 : Int32) * l1) + l3 = nI j1 ∧ (∃ j2, j2 < 2060 ∧ ((412 : Int32) * l2) + l3 = nI j2 ∧ (∀ M1, M1 = jrI M 5 (upd (M.1 5) j2 (M.1 5 j1)) → JW x jtbM mX12_copy d (jV P) 2 [(0, .ref (x.2.2.2 0)), (1, .int l1), (2, .int l2), (3, .int (l3 + 1))] [] M1)))) :
    JW x jtbM mX12_copy d (jV P) 2 [(0, .ref (x.2.2.2 0)), (1, .int l1), (2, .int l2), (3, .int l3)] [] M := by
  refine jw_iload_n (pc := 2) (j := 3) dX12_copy_2 rfl rfl ?_
  refine jw_sipush (pc := 3) (v := 412) dX12_copy_3 rfl ?_
  refine jw_icmp_ge (pc := 6) (tgt := 39) dX12_copy_6 (by decide) (fun c => ?_) (fun c => ?_)
  · replace h := h.1 c
    refine jw_iconst (pc := 39) (v := 0) dX12_copy_39 rfl ?_
    refine jw_istore_n (pc := 40) (ls' := [(3, .int (0 : Int32)), (0, .ref (x.2.2.2 0)), (1, .int l1), (2, .int l2)]) dX12_copy_40 rfl (by decide) rfl ?_
    exact jw_sub [1, 2, 3, 0] rfl h
  · replace h := h.2 c
    refine jw_aload_n (pc := 9) (j := 0) dX12_copy_9 rfl rfl ?_
    refine jw_getR (pc := 10) (r := 5) dX12_copy_10 sM_0 fl_X12_35 (by decide) rfl rfl ?_
    refine jw_sipush (pc := 13) (v := 412) dX12_copy_13 rfl ?_
    refine jw_iload_n (pc := 16) (j := 2) dX12_copy_16 rfl rfl ?_
    refine jw_imul (pc := 17) dX12_copy_17 ?_
    refine jw_iload_n (pc := 18) (j := 3) dX12_copy_18 rfl rfl ?_
    refine jw_iadd (pc := 19) dX12_copy_19 ?_
    refine jw_aload_n (pc := 20) (j := 0) dX12_copy_20 rfl rfl ?_
    refine jw_getR (pc := 21) (r := 5) dX12_copy_21 sM_0 fl_X12_35 (by decide) rfl rfl ?_
    refine jw_sipush (pc := 24) (v := 412) dX12_copy_24 rfl ?_
    refine jw_iload_n (pc := 27) (j := 1) dX12_copy_27 rfl rfl ?_
    refine jw_imul (pc := 28) dX12_copy_28 ?_
    refine jw_iload_n (pc := 29) (j := 3) dX12_copy_29 rfl rfl ?_
    refine jw_iadd (pc := 30) dX12_copy_30 ?_
    obtain ⟨j1, hj1, ej1, h⟩ := h
    refine jw_iald (pc := 31) (j := j1) dX12_copy_31 sM_5 hj1 ej1 (by decide) ?_
    obtain ⟨j2, hj2, ej2, h⟩ := h
    refine jw_iast (pc := 32) (j := j2) dX12_copy_32 sM_5 hj2 ej2 (by decide) ?_
    replace h := h _ rfl
    generalize jrI M 5 (upd (M.1 5) j2 (M.1 5 j1)) = M1 at h ⊢
    refine jw_iinc (pc := 33) (j := 3) (u := l3 + 1) (ls' := [(3, .int (l3 + 1)), (0, .ref (x.2.2.2 0)), (1, .int l1), (2, .int l2)]) dX12_copy_33 rfl rfl (by decide) rfl ?_
    refine jw_goto (pc := 36) (tgt := 2) dX12_copy_36 (by decide) ?_
    exact jw_sub [1, 2, 3, 0] rfl h
set_option maxRecDepth 20000 in
theorem b_X12_copy_41 {x : jX} {d : Nat} {M : jM} {P : jM → Prop} {l1 : Int32} {l2 : Int32} {l3 : Int32} 
    (h : ((6 : Int32) ≤ l3 → P M) ∧ (¬ (6 : Int32) ≤ l3 → ∃ j1, j1 < 30 ∧ ((6 : Int32) * l1) + l3 = nI j1 ∧ (∃ j2, j2 < 30 ∧ ((6 : Int32) * l2) + l3 = nI j2 ∧ (∀ M1, M1 = jrL M 6 (vp_updL (M.2 6) j2 (M.2 6 j1)) → JW x jtbM mX12_copy d (jV P) 41 [(0, .ref (x.2.2.2 0)), (1, .int l1), (2, .int l2), (3, .int (l3 + 1))] [] M1)))) :
    JW x jtbM mX12_copy d (jV P) 41 [(0, .ref (x.2.2.2 0)), (1, .int l1), (2, .int l2), (3, .int l3)] [] M := by
  refine jw_iload_n (pc := 41) (j := 3) dX12_copy_41 rfl rfl ?_
  refine jw_bipush (pc := 42) (v := 6) dX12_copy_42 rfl ?_
  refine jw_icmp_ge (pc := 44) (tgt := 75) dX12_copy_44 (by decide) (fun c => ?_) (fun c => ?_)
  · replace h := h.1 c
    exact jw_vret (pc := 75) dX12_copy_75 rfl ⟨rfl, h⟩
  · replace h := h.2 c
    refine jw_aload_n (pc := 47) (j := 0) dX12_copy_47 rfl rfl ?_
    refine jw_getR (pc := 48) (r := 6) dX12_copy_48 sM_0 fl_X12_38 (by decide) rfl rfl ?_
    refine jw_bipush (pc := 51) (v := 6) dX12_copy_51 rfl ?_
    refine jw_iload_n (pc := 53) (j := 2) dX12_copy_53 rfl rfl ?_
    refine jw_imul (pc := 54) dX12_copy_54 ?_
    refine jw_iload_n (pc := 55) (j := 3) dX12_copy_55 rfl rfl ?_
    refine jw_iadd (pc := 56) dX12_copy_56 ?_
    refine jw_aload_n (pc := 57) (j := 0) dX12_copy_57 rfl rfl ?_
    refine jw_getR (pc := 58) (r := 6) dX12_copy_58 sM_0 fl_X12_38 (by decide) rfl rfl ?_
    refine jw_bipush (pc := 61) (v := 6) dX12_copy_61 rfl ?_
    refine jw_iload_n (pc := 63) (j := 1) dX12_copy_63 rfl rfl ?_
    refine jw_imul (pc := 64) dX12_copy_64 ?_
    refine jw_iload_n (pc := 65) (j := 3) dX12_copy_65 rfl rfl ?_
    refine jw_iadd (pc := 66) dX12_copy_66 ?_
    obtain ⟨j1, hj1, ej1, h⟩ := h
    refine jw_lald (pc := 67) (j := j1) dX12_copy_67 sM_6 hj1 ej1 (by decide) ?_
    obtain ⟨j2, hj2, ej2, h⟩ := h
    refine jw_last (pc := 68) (j := j2) dX12_copy_68 sM_6 hj2 ej2 (by decide) ?_
    replace h := h _ rfl
    generalize jrL M 6 (vp_updL (M.2 6) j2 (M.2 6 j1)) = M1 at h ⊢
    refine jw_iinc (pc := 69) (j := 3) (u := l3 + 1) (ls' := [(3, .int (l3 + 1)), (0, .ref (x.2.2.2 0)), (1, .int l1), (2, .int l2)]) dX12_copy_69 rfl rfl (by decide) rfl ?_
    refine jw_goto (pc := 72) (tgt := 41) dX12_copy_72 (by decide) ?_
    exact jw_sub [1, 2, 3, 0] rfl h
set_option maxRecDepth 20000 in
theorem b_X12_mark {x : jX} {d : Nat} {M : jM} {P : jM → Int32 → Prop}  
    (h : ∀ M1, M1 = jrI M 0 (upd (M.1 0) 1 (0 : Int32)) → ∀ M2, M2 = jrI M1 0 (upd (M1.1 0) 0 (0 : Int32)) → (¬ (M2.1 0 25) = (3 : Int32) → ∀ M3, M3 = jrI M2 0 (upd (M2.1 0) 25 ((M2.1 0 25) + (1 : Int32))) → JC x jtbM mX12_copy d [.ref (x.2.2.2 0), .int (0 : Int32), .int (M3.1 0 25)] M3 (jV fun M4 => P M4 (M4.1 0 25))) ∧ ((M2.1 0 25) = (3 : Int32) → JC x jtbM mX12_refuse d [.ref (x.2.2.2 0), .int (7 : Int32)] M2 (jI fun M5 r1 => P M5 r1))) :
    JC x jtbM mX12_mark (d + 1) [.ref (x.2.2.2 0)] M (jI P) := by
  refine JC.of rfl (Nat.le_of_ble_eq_true rfl) ?_
  refine jw_ls (ls' := [(0, .ref (x.2.2.2 0))]) rfl ?_
  refine jw_aload_n (pc := 0) (j := 0) dX12_mark_0 rfl rfl ?_
  refine jw_iconst (pc := 1) (v := 0) dX12_mark_1 rfl ?_
  refine jw_putI (pc := 2) dX12_mark_2 sM_0 fl_X12_81 fw_12_1 (by decide) rfl ?_
  replace h := h _ rfl
  generalize jrI M 0 (upd (M.1 0) 1 (0 : Int32)) = M1 at h ⊢
  refine jw_aload_n (pc := 5) (j := 0) dX12_mark_5 rfl rfl ?_
  refine jw_iconst (pc := 6) (v := 0) dX12_mark_6 rfl ?_
  refine jw_putI (pc := 7) dX12_mark_7 sM_0 fl_X12_84 fw_12_0 (by decide) rfl ?_
  replace h := h _ rfl
  generalize jrI M1 0 (upd (M1.1 0) 0 (0 : Int32)) = M2 at h ⊢
  refine jw_aload_n (pc := 10) (j := 0) dX12_mark_10 rfl rfl ?_
  refine jw_getI (pc := 11) dX12_mark_11 sM_0 fl_X12_514 (by decide) rfl ?_
  refine jw_iconst (pc := 14) (v := 3) dX12_mark_14 rfl ?_
  refine jw_icmp_ne (pc := 15) (tgt := 25) dX12_mark_15 (by decide) (fun c => ?_) (fun c => ?_)
  · replace h := h.1 c
    refine jw_aload_n (pc := 25) (j := 0) dX12_mark_25 rfl rfl ?_
    refine jw_dup (pc := 26) dX12_mark_26 rfl ?_
    refine jw_getI (pc := 27) dX12_mark_27 sM_0 fl_X12_514 (by decide) rfl ?_
    refine jw_iconst (pc := 30) (v := 1) dX12_mark_30 rfl ?_
    refine jw_iadd (pc := 31) dX12_mark_31 ?_
    refine jw_putI (pc := 32) dX12_mark_32 sM_0 fl_X12_514 fw_12_25 (by decide) rfl ?_
    replace h := h _ rfl
    generalize jrI M2 0 (upd (M2.1 0) 25 ((M2.1 0 25) + (1 : Int32))) = M3 at h ⊢
    refine jw_aload_n (pc := 35) (j := 0) dX12_mark_35 rfl rfl ?_
    refine jw_iconst (pc := 36) (v := 0) dX12_mark_36 rfl ?_
    refine jw_aload_n (pc := 37) (j := 0) dX12_mark_37 rfl rfl ?_
    refine jw_getI (pc := 38) dX12_mark_38 sM_0 fl_X12_514 (by decide) rfl ?_
    refine jw_callV (pc := 41) (m2 := mX12_copy) (As := [.int (0 : Int32), .int (M3.1 0 25)]) (st := []) dX12_mark_41 sM_0 (by decide) rfl rfl gm_X12_copy ml_X12_517 rfl (Nat.le_of_ble_eq_true rfl) (JC.mono h ?_)
    clear h
    rintro M4 _ ⟨rfl, h⟩
    refine jw_st (st' := []) rfl ?_
    refine jw_aload_n (pc := 44) (j := 0) dX12_mark_44 rfl rfl ?_
    refine jw_getI (pc := 45) dX12_mark_45 sM_0 fl_X12_514 (by decide) rfl ?_
    exact jw_iret (pc := 48) dX12_mark_48 rfl ⟨_, rfl, h⟩
  · replace h := h.2 c
    refine jw_aload_n (pc := 18) (j := 0) dX12_mark_18 rfl rfl ?_
    refine jw_bipush (pc := 19) (v := 7) dX12_mark_19 rfl ?_
    refine jw_callV (pc := 21) (m2 := mX12_refuse) (As := [.int (7 : Int32)]) (st := []) dX12_mark_21 sM_0 (by decide) rfl rfl gm_X12_refuse ml_X12_316 rfl (Nat.le_of_ble_eq_true rfl) (JC.mono h ?_)
    clear h
    rintro M5 _ ⟨r1, rfl, h⟩
    refine jw_st (st' := [.int r1]) rfl ?_
    exact jw_iret (pc := 24) dX12_mark_24 rfl ⟨_, rfl, h⟩
set_option maxRecDepth 20000 in
theorem b_X12_back {x : jX} {d : Nat} {M : jM} {P : jM → Int32 → Prop}  
    (h : ∀ M1, M1 = jrI M 0 (upd (M.1 0) 1 (0 : Int32)) → ∀ M2, M2 = jrI M1 0 (upd (M1.1 0) 0 (0 : Int32)) → (¬ (M2.1 0 25) = 0 → JC x jtbM mX12_copy d [.ref (x.2.2.2 0), .int (M2.1 0 25), .int (0 : Int32)] M2 (jV fun M3 => ∀ M4, M4 = jrI M3 0 (upd (M3.1 0) 25 ((M3.1 0 25) - (1 : Int32))) → P M4 (M4.1 0 25))) ∧ ((M2.1 0 25) = 0 → JC x jtbM mX12_refuse d [.ref (x.2.2.2 0), .int (8 : Int32)] M2 (jI fun M5 r1 => P M5 r1))) :
    JC x jtbM mX12_back (d + 1) [.ref (x.2.2.2 0)] M (jI P) := by
  refine JC.of rfl (Nat.le_of_ble_eq_true rfl) ?_
  refine jw_ls (ls' := [(0, .ref (x.2.2.2 0))]) rfl ?_
  refine jw_aload_n (pc := 0) (j := 0) dX12_back_0 rfl rfl ?_
  refine jw_iconst (pc := 1) (v := 0) dX12_back_1 rfl ?_
  refine jw_putI (pc := 2) dX12_back_2 sM_0 fl_X12_81 fw_12_1 (by decide) rfl ?_
  replace h := h _ rfl
  generalize jrI M 0 (upd (M.1 0) 1 (0 : Int32)) = M1 at h ⊢
  refine jw_aload_n (pc := 5) (j := 0) dX12_back_5 rfl rfl ?_
  refine jw_iconst (pc := 6) (v := 0) dX12_back_6 rfl ?_
  refine jw_putI (pc := 7) dX12_back_7 sM_0 fl_X12_84 fw_12_0 (by decide) rfl ?_
  replace h := h _ rfl
  generalize jrI M1 0 (upd (M1.1 0) 0 (0 : Int32)) = M2 at h ⊢
  refine jw_aload_n (pc := 10) (j := 0) dX12_back_10 rfl rfl ?_
  refine jw_getI (pc := 11) dX12_back_11 sM_0 fl_X12_514 (by decide) rfl ?_
  refine jw_if_ne (pc := 14) (tgt := 24) dX12_back_14 (by decide) (fun c => ?_) (fun c => ?_)
  · replace h := h.1 c
    refine jw_aload_n (pc := 24) (j := 0) dX12_back_24 rfl rfl ?_
    refine jw_aload_n (pc := 25) (j := 0) dX12_back_25 rfl rfl ?_
    refine jw_getI (pc := 26) dX12_back_26 sM_0 fl_X12_514 (by decide) rfl ?_
    refine jw_iconst (pc := 29) (v := 0) dX12_back_29 rfl ?_
    refine jw_callV (pc := 30) (m2 := mX12_copy) (As := [.int (M2.1 0 25), .int (0 : Int32)]) (st := []) dX12_back_30 sM_0 (by decide) rfl rfl gm_X12_copy ml_X12_517 rfl (Nat.le_of_ble_eq_true rfl) (JC.mono h ?_)
    clear h
    rintro M3 _ ⟨rfl, h⟩
    refine jw_st (st' := []) rfl ?_
    refine jw_aload_n (pc := 33) (j := 0) dX12_back_33 rfl rfl ?_
    refine jw_dup (pc := 34) dX12_back_34 rfl ?_
    refine jw_getI (pc := 35) dX12_back_35 sM_0 fl_X12_514 (by decide) rfl ?_
    refine jw_iconst (pc := 38) (v := 1) dX12_back_38 rfl ?_
    refine jw_isub (pc := 39) dX12_back_39 ?_
    refine jw_putI (pc := 40) dX12_back_40 sM_0 fl_X12_514 fw_12_25 (by decide) rfl ?_
    replace h := h _ rfl
    generalize jrI M3 0 (upd (M3.1 0) 25 ((M3.1 0 25) - (1 : Int32))) = M4 at h ⊢
    refine jw_aload_n (pc := 43) (j := 0) dX12_back_43 rfl rfl ?_
    refine jw_getI (pc := 44) dX12_back_44 sM_0 fl_X12_514 (by decide) rfl ?_
    exact jw_iret (pc := 47) dX12_back_47 rfl ⟨_, rfl, h⟩
  · replace h := h.2 c
    refine jw_aload_n (pc := 17) (j := 0) dX12_back_17 rfl rfl ?_
    refine jw_bipush (pc := 18) (v := 8) dX12_back_18 rfl ?_
    refine jw_callV (pc := 20) (m2 := mX12_refuse) (As := [.int (8 : Int32)]) (st := []) dX12_back_20 sM_0 (by decide) rfl rfl gm_X12_refuse ml_X12_316 rfl (Nat.le_of_ble_eq_true rfl) (JC.mono h ?_)
    clear h
    rintro M5 _ ⟨r1, rfl, h⟩
    refine jw_st (st' := [.int r1]) rfl ?_
    exact jw_iret (pc := 23) dX12_back_23 rfl ⟨_, rfl, h⟩
