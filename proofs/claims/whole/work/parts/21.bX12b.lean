set_option maxRecDepth 20000 in
theorem b_X12_plain_25 {x : jX} {d : Nat} {M : jM} {P : jM → Int32 → Prop} {l2 : Int32} 
    (h : ((412 : Int32) ≤ l2 → ∀ M1, M1 = jrI M 0 (upd (M.1 0) 19 (0 : Int32)) → ∀ M2, M2 = jrI M1 0 (upd (M1.1 0) 20 (0 : Int32)) → ∀ M3, M3 = jrI M2 0 (upd (M2.1 0) 21 (0 : Int32)) → JC x jtbM mX12_isSize d [.ref (x.2.2.2 0)] M3 (jZ fun M4 b1 => JC x jtbM mX12_must d [.ref (x.2.2.2 0), .int (jb b1)] M4 (jV fun M5 => JC x jtbM mX12_count d [.ref (x.2.2.2 0), .int (1 : Int32), .int (5 : Int32)] M5 (jI fun M6 r1 => ∀ M7, M7 = jrI M6 5 (upd (M6.1 5) 1648 r1) → JC x jtbM mX12_count d [.ref (x.2.2.2 0), .int (1 : Int32), .int (5 : Int32)] M7 (jI fun M8 r2 => ∀ M9, M9 = jrI M8 5 (upd (M8.1 5) 1649 r2) → JC x jtbM mX12_isSign d [.ref (x.2.2.2 0), .int (59 : Int32)] M9 (jZ fun M10 b2 => JC x jtbM mX12_must d [.ref (x.2.2.2 0), .int (jb b2)] M10 (jV fun M11 => JW x jtbM mX12_plain (d + 1) (jI P) 147 [(0, .ref (x.2.2.2 0))] [] M11))))))) ∧ (¬ (412 : Int32) ≤ l2 → JC x jtbM mX12_isIn d [.long l2.toInt64, .long (3 : Int64), .long (27 : Int64)] M (jZ fun M12 b3 => (b3 = false → JC x jtbM mX12_isIn d [.long l2.toInt64, .long (53 : Int64), .long (77 : Int64)] M12 (jZ fun M13 b4 => (b4 = false → ∃ j1, j1 < 2060 ∧ (1648 : Int32) + l2 = nI j1 ∧ (∀ M14, M14 = jrI M13 5 (upd (M13.1 5) j1 (0 : Int32)) → JW x jtbM mX12_plain (d + 1) (jI P) 25 [(0, .ref (x.2.2.2 0)), (2, .int (l2 + 1))] [] M14)) ∧ (b4 = true → ∃ j2, j2 < 2060 ∧ (1648 : Int32) + l2 = nI j2 ∧ (∀ M15, M15 = jrI M13 5 (upd (M13.1 5) j2 (1 : Int32)) → JW x jtbM mX12_plain (d + 1) (jI P) 25 [(0, .ref (x.2.2.2 0)), (2, .int (l2 + 1))] [] M15)))) ∧ (b3 = true → ∃ j3, j3 < 2060 ∧ (1648 : Int32) + l2 = nI j3 ∧ (∀ M16, M16 = jrI M12 5 (upd (M12.1 5) j3 (99 : Int32)) → JW x jtbM mX12_plain (d + 1) (jI P) 25 [(0, .ref (x.2.2.2 0)), (2, .int (l2 + 1))] [] M16))))) :
    JW x jtbM mX12_plain (d + 1) (jI P) 25 [(0, .ref (x.2.2.2 0)), (2, .int l2)] [] M := by
  refine jw_iload_n (pc := 25) (j := 1) dX12_plain_25 rfl rfl ?_
  refine jw_sipush (pc := 26) (v := 412) dX12_plain_26 rfl ?_
  refine jw_icmp_ge (pc := 29) (tgt := 86) dX12_plain_29 (by decide) (fun c => ?_) (fun c => ?_)
  · replace h := h.1 c
    refine jw_aload_n (pc := 86) (j := 0) dX12_plain_86 rfl rfl ?_
    refine jw_iconst (pc := 87) (v := 0) dX12_plain_87 rfl ?_
    refine jw_putI (pc := 88) dX12_plain_88 sM_0 fl_X12_283 fw_12_19 (by decide) rfl ?_
    replace h := h _ rfl
    generalize jrI M 0 (upd (M.1 0) 19 (0 : Int32)) = M1 at h ⊢
    refine jw_aload_n (pc := 91) (j := 0) dX12_plain_91 rfl rfl ?_
    refine jw_iconst (pc := 92) (v := 0) dX12_plain_92 rfl ?_
    refine jw_putI (pc := 93) dX12_plain_93 sM_0 fl_X12_286 fw_12_20 (by decide) rfl ?_
    replace h := h _ rfl
    generalize jrI M1 0 (upd (M1.1 0) 20 (0 : Int32)) = M2 at h ⊢
    refine jw_aload_n (pc := 96) (j := 0) dX12_plain_96 rfl rfl ?_
    refine jw_iconst (pc := 97) (v := 0) dX12_plain_97 rfl ?_
    refine jw_putI (pc := 98) dX12_plain_98 sM_0 fl_X12_289 fw_12_21 (by decide) rfl ?_
    replace h := h _ rfl
    generalize jrI M2 0 (upd (M2.1 0) 21 (0 : Int32)) = M3 at h ⊢
    refine jw_aload_n (pc := 101) (j := 0) dX12_plain_101 rfl rfl ?_
    refine jw_aload_n (pc := 102) (j := 0) dX12_plain_102 rfl rfl ?_
    refine jw_callV (pc := 103) (m2 := mX12_isSize) (As := []) (st := [.ref (x.2.2.2 0)]) dX12_plain_103 sM_0 (by decide) rfl rfl gm_X12_isSize ml_X12_171 rfl (Nat.le_of_ble_eq_true rfl) (JC.mono h ?_)
    clear h
    rintro M4 _ ⟨b1, rfl, h⟩
    refine jw_st (st' := [.int (jb b1), .ref (x.2.2.2 0)]) rfl ?_
    refine jw_callV (pc := 106) (m2 := mX12_must) (As := [.int (jb b1)]) (st := []) dX12_plain_106 sM_0 (by decide) rfl rfl gm_X12_must ml_X12_265 rfl (Nat.le_of_ble_eq_true rfl) (JC.mono h ?_)
    clear h
    rintro M5 _ ⟨rfl, h⟩
    refine jw_st (st' := []) rfl ?_
    refine jw_aload_n (pc := 109) (j := 0) dX12_plain_109 rfl rfl ?_
    refine jw_getR (pc := 110) (r := 5) dX12_plain_110 sM_0 fl_X12_35 (by decide) rfl rfl ?_
    refine jw_sipush (pc := 113) (v := 1648) dX12_plain_113 rfl ?_
    refine jw_aload_n (pc := 116) (j := 0) dX12_plain_116 rfl rfl ?_
    refine jw_iconst (pc := 117) (v := 1) dX12_plain_117 rfl ?_
    refine jw_iconst (pc := 118) (v := 5) dX12_plain_118 rfl ?_
    refine jw_callV (pc := 119) (m2 := mX12_count) (As := [.int (1 : Int32), .int (5 : Int32)]) (st := [.int (1648 : Int32), .ref (x.2.2.2 5)]) dX12_plain_119 sM_0 (by decide) rfl rfl gm_X12_count ml_X12_292 rfl (Nat.le_of_ble_eq_true rfl) (JC.mono h ?_)
    clear h
    rintro M6 _ ⟨r1, rfl, h⟩
    refine jw_st (st' := [.int r1, .int (1648 : Int32), .ref (x.2.2.2 5)]) rfl ?_
    refine jw_iast (pc := 122) (j := 1648) dX12_plain_122 sM_5 (by decide) rfl (by decide) ?_
    replace h := h _ rfl
    generalize jrI M6 5 (upd (M6.1 5) 1648 r1) = M7 at h ⊢
    refine jw_aload_n (pc := 123) (j := 0) dX12_plain_123 rfl rfl ?_
    refine jw_getR (pc := 124) (r := 5) dX12_plain_124 sM_0 fl_X12_35 (by decide) rfl rfl ?_
    refine jw_sipush (pc := 127) (v := 1649) dX12_plain_127 rfl ?_
    refine jw_aload_n (pc := 130) (j := 0) dX12_plain_130 rfl rfl ?_
    refine jw_iconst (pc := 131) (v := 1) dX12_plain_131 rfl ?_
    refine jw_iconst (pc := 132) (v := 5) dX12_plain_132 rfl ?_
    refine jw_callV (pc := 133) (m2 := mX12_count) (As := [.int (1 : Int32), .int (5 : Int32)]) (st := [.int (1649 : Int32), .ref (x.2.2.2 5)]) dX12_plain_133 sM_0 (by decide) rfl rfl gm_X12_count ml_X12_292 rfl (Nat.le_of_ble_eq_true rfl) (JC.mono h ?_)
    clear h
    rintro M8 _ ⟨r2, rfl, h⟩
    refine jw_st (st' := [.int r2, .int (1649 : Int32), .ref (x.2.2.2 5)]) rfl ?_
    refine jw_iast (pc := 136) (j := 1649) dX12_plain_136 sM_5 (by decide) rfl (by decide) ?_
    replace h := h _ rfl
    generalize jrI M8 5 (upd (M8.1 5) 1649 r2) = M9 at h ⊢
    refine jw_aload_n (pc := 137) (j := 0) dX12_plain_137 rfl rfl ?_
    refine jw_aload_n (pc := 138) (j := 0) dX12_plain_138 rfl rfl ?_
    refine jw_bipush (pc := 139) (v := 59) dX12_plain_139 rfl ?_
    refine jw_callV (pc := 141) (m2 := mX12_isSign) (As := [.int (59 : Int32)]) (st := [.ref (x.2.2.2 0)]) dX12_plain_141 sM_0 (by decide) rfl rfl gm_X12_isSign ml_X12_252 rfl (Nat.le_of_ble_eq_true rfl) (JC.mono h ?_)
    clear h
    rintro M10 _ ⟨b2, rfl, h⟩
    refine jw_st (st' := [.int (jb b2), .ref (x.2.2.2 0)]) rfl ?_
    refine jw_callV (pc := 144) (m2 := mX12_must) (As := [.int (jb b2)]) (st := []) dX12_plain_144 sM_0 (by decide) rfl rfl gm_X12_must ml_X12_265 rfl (Nat.le_of_ble_eq_true rfl) (JC.mono h ?_)
    clear h
    rintro M11 _ ⟨rfl, h⟩
    refine jw_st (st' := []) rfl ?_
    exact jw_sub [0] rfl h
  · replace h := h.2 c
    refine jw_aload_n (pc := 32) (j := 0) dX12_plain_32 rfl rfl ?_
    refine jw_getR (pc := 33) (r := 5) dX12_plain_33 sM_0 fl_X12_35 (by decide) rfl rfl ?_
    refine jw_sipush (pc := 36) (v := 1648) dX12_plain_36 rfl ?_
    refine jw_iload_n (pc := 39) (j := 1) dX12_plain_39 rfl rfl ?_
    refine jw_iadd (pc := 40) dX12_plain_40 ?_
    refine jw_iload_n (pc := 41) (j := 1) dX12_plain_41 rfl rfl ?_
    refine jw_i2l (pc := 42) dX12_plain_42 ?_
    refine jw_ldc2 (pc := 43) (v := 3) dX12_plain_43 kl_X12_114 ?_
    refine jw_ldc2 (pc := 46) (v := 27) dX12_plain_46 kl_X12_277 ?_
    refine jw_callS (pc := 49) (m2 := mX12_isIn) (As := [.long l2.toInt64, .long (3 : Int64), .long (27 : Int64)]) (st := [.int ((1648 : Int32) + l2), .ref (x.2.2.2 5)]) dX12_plain_49 gm_X12_isIn ml_X12_116 rfl (Nat.le_of_ble_eq_true rfl) (JC.mono h ?_)
    clear h
    rintro M12 _ ⟨b3, rfl, h⟩
    refine jw_st (st' := [.int (jb b3), .int ((1648 : Int32) + l2), .ref (x.2.2.2 5)]) rfl ?_
    refine jw_if_eq (pc := 52) (tgt := 60) dX12_plain_52 (by decide) (fun c => ?_) (fun c => ?_)
    · replace h := h.1 ((jb_0 _).mp c)
      refine jw_iload_n (pc := 60) (j := 1) dX12_plain_60 rfl rfl ?_
      refine jw_i2l (pc := 61) dX12_plain_61 ?_
      refine jw_ldc2 (pc := 62) (v := 53) dX12_plain_62 kl_X12_279 ?_
      refine jw_ldc2 (pc := 65) (v := 77) dX12_plain_65 kl_X12_281 ?_
      refine jw_callS (pc := 68) (m2 := mX12_isIn) (As := [.long l2.toInt64, .long (53 : Int64), .long (77 : Int64)]) (st := [.int ((1648 : Int32) + l2), .ref (x.2.2.2 5)]) dX12_plain_68 gm_X12_isIn ml_X12_116 rfl (Nat.le_of_ble_eq_true rfl) (JC.mono h ?_)
      clear h
      rintro M13 _ ⟨b4, rfl, h⟩
      refine jw_st (st' := [.int (jb b4), .int ((1648 : Int32) + l2), .ref (x.2.2.2 5)]) rfl ?_
      refine jw_if_eq (pc := 71) (tgt := 78) dX12_plain_71 (by decide) (fun c => ?_) (fun c => ?_)
      · replace h := h.1 ((jb_0 _).mp c)
        refine jw_iconst (pc := 78) (v := 0) dX12_plain_78 rfl ?_
        obtain ⟨j1, hj1, ej1, h⟩ := h
        refine jw_iast (pc := 79) (j := j1) dX12_plain_79 sM_5 hj1 ej1 (by decide) ?_
        replace h := h _ rfl
        generalize jrI M13 5 (upd (M13.1 5) j1 (0 : Int32)) = M14 at h ⊢
        refine jw_iinc (pc := 80) (j := 1) (u := l2 + 1) (ls' := [(2, .int (l2 + 1)), (0, .ref (x.2.2.2 0))]) dX12_plain_80 rfl rfl (by decide) rfl ?_
        refine jw_goto (pc := 83) (tgt := 25) dX12_plain_83 (by decide) ?_
        exact jw_sub [1, 0] rfl h
      · replace h := h.2 (jb_ne c)
        refine jw_iconst (pc := 74) (v := 1) dX12_plain_74 rfl ?_
        refine jw_goto (pc := 75) (tgt := 79) dX12_plain_75 (by decide) ?_
        obtain ⟨j2, hj2, ej2, h⟩ := h
        refine jw_iast (pc := 79) (j := j2) dX12_plain_79 sM_5 hj2 ej2 (by decide) ?_
        replace h := h _ rfl
        generalize jrI M13 5 (upd (M13.1 5) j2 (1 : Int32)) = M15 at h ⊢
        refine jw_iinc (pc := 80) (j := 1) (u := l2 + 1) (ls' := [(2, .int (l2 + 1)), (0, .ref (x.2.2.2 0))]) dX12_plain_80 rfl rfl (by decide) rfl ?_
        refine jw_goto (pc := 83) (tgt := 25) dX12_plain_83 (by decide) ?_
        exact jw_sub [1, 0] rfl h
    · replace h := h.2 (jb_ne c)
      refine jw_bipush (pc := 55) (v := 99) dX12_plain_55 rfl ?_
      refine jw_goto (pc := 57) (tgt := 79) dX12_plain_57 (by decide) ?_
      obtain ⟨j3, hj3, ej3, h⟩ := h
      refine jw_iast (pc := 79) (j := j3) dX12_plain_79 sM_5 hj3 ej3 (by decide) ?_
      replace h := h _ rfl
      generalize jrI M12 5 (upd (M12.1 5) j3 (99 : Int32)) = M16 at h ⊢
      refine jw_iinc (pc := 80) (j := 1) (u := l2 + 1) (ls' := [(2, .int (l2 + 1)), (0, .ref (x.2.2.2 0))]) dX12_plain_80 rfl rfl (by decide) rfl ?_
      refine jw_goto (pc := 83) (tgt := 25) dX12_plain_83 (by decide) ?_
      exact jw_sub [1, 0] rfl h
set_option maxRecDepth 20000 in
theorem b_X12_plain_147 {x : jX} {d : Nat} {M : jM} {P : jM → Int32 → Prop}  
    (h : (¬ (M.1 0 12) = 0 → JC x jtbM mX12_isWell d [.ref (x.2.2.2 0)] M (jZ fun M1 b1 => (b1 = true → JW x jtbM mX12_plain (d + 1) (jI P) 287 [(0, .ref (x.2.2.2 0)), (2, .int (0 : Int32))] [] M1) ∧ (b1 = false → P M1 (-1 : Int32)))) ∧ ((M.1 0 12) = 0 → ((M.1 0 14) = 0 → JC x jtbM mX12_isWell d [.ref (x.2.2.2 0)] M (jZ fun M2 b2 => (b2 = true → JW x jtbM mX12_plain (d + 1) (jI P) 287 [(0, .ref (x.2.2.2 0)), (2, .int (0 : Int32))] [] M2) ∧ (b2 = false → P M2 (-1 : Int32)))) ∧ (¬ (M.1 0 14) = 0 → JC x jtbM mX12_isMost d [.ref (x.2.2.2 0)] M (jZ fun M3 b3 => (b3 = false → JC x jtbM mX12_isLeast d [.ref (x.2.2.2 0)] M3 (jZ fun M4 b4 => (b4 = false → JC x jtbM mX12_isPrice d [.ref (x.2.2.2 0)] M4 (jZ fun M5 b5 => (b5 = false → JC x jtbM mX12_isVillageWord d [.ref (x.2.2.2 0)] M5 (jZ fun M6 b6 => (b6 = false → JC x jtbM mX12_wrong d [.ref (x.2.2.2 0)] M6 (jV fun M7 => JC x jtbM mX12_isSign d [.ref (x.2.2.2 0), .int (59 : Int32)] M7 (jZ fun M8 b7 => JC x jtbM mX12_must d [.ref (x.2.2.2 0), .int (jb b7)] M8 (jV fun M9 => JW x jtbM mX12_plain (d + 1) (jI P) 147 [(0, .ref (x.2.2.2 0))] [] M9)))) ∧ (b6 = true → JC x jtbM mX12_readVillage d [.ref (x.2.2.2 0)] M6 (jV fun M10 => JC x jtbM mX12_isSign d [.ref (x.2.2.2 0), .int (59 : Int32)] M10 (jZ fun M11 b8 => JC x jtbM mX12_must d [.ref (x.2.2.2 0), .int (jb b8)] M11 (jV fun M12 => JW x jtbM mX12_plain (d + 1) (jI P) 147 [(0, .ref (x.2.2.2 0))] [] M12)))))) ∧ (b5 = true → JC x jtbM mX12_readCells d [.ref (x.2.2.2 0), .int (1701 : Int32), .int (M5.1 0 21), .int (1 : Int32), .int (99 : Int32)] M5 (jI fun M13 r1 => ∀ M14, M14 = jrI M13 0 (upd (M13.1 0) 21 r1) → JC x jtbM mX12_isSign d [.ref (x.2.2.2 0), .int (59 : Int32)] M14 (jZ fun M15 b9 => JC x jtbM mX12_must d [.ref (x.2.2.2 0), .int (jb b9)] M15 (jV fun M16 => JW x jtbM mX12_plain (d + 1) (jI P) 147 [(0, .ref (x.2.2.2 0))] [] M16)))))) ∧ (b4 = true → JC x jtbM mX12_readCells d [.ref (x.2.2.2 0), .int (1676 : Int32), .int (M4.1 0 20), .int (0 : Int32), .int (99 : Int32)] M4 (jI fun M17 r2 => ∀ M18, M18 = jrI M17 0 (upd (M17.1 0) 20 r2) → JC x jtbM mX12_isSign d [.ref (x.2.2.2 0), .int (59 : Int32)] M18 (jZ fun M19 b10 => JC x jtbM mX12_must d [.ref (x.2.2.2 0), .int (jb b10)] M19 (jV fun M20 => JW x jtbM mX12_plain (d + 1) (jI P) 147 [(0, .ref (x.2.2.2 0))] [] M20)))))) ∧ (b3 = true → JC x jtbM mX12_readCells d [.ref (x.2.2.2 0), .int (1651 : Int32), .int (M3.1 0 19), .int (0 : Int32), .int (99 : Int32)] M3 (jI fun M21 r3 => ∀ M22, M22 = jrI M21 0 (upd (M21.1 0) 19 r3) → JC x jtbM mX12_isSign d [.ref (x.2.2.2 0), .int (59 : Int32)] M22 (jZ fun M23 b11 => JC x jtbM mX12_must d [.ref (x.2.2.2 0), .int (jb b11)] M23 (jV fun M24 => JW x jtbM mX12_plain (d + 1) (jI P) 147 [(0, .ref (x.2.2.2 0))] [] M24)))))))) :
    JW x jtbM mX12_plain (d + 1) (jI P) 147 [(0, .ref (x.2.2.2 0))] [] M := by
  refine jw_aload_n (pc := 147) (j := 0) dX12_plain_147 rfl rfl ?_
  refine jw_getI (pc := 148) dX12_plain_148 sM_0 fl_X12_229 (by decide) rfl ?_
  refine jw_if_ne (pc := 151) (tgt := 276) dX12_plain_151 (by decide) (fun c => ?_) (fun c => ?_)
  · replace h := h.1 c
    refine jw_aload_n (pc := 276) (j := 0) dX12_plain_276 rfl rfl ?_
    refine jw_callV (pc := 277) (m2 := mX12_isWell) (As := []) (st := []) dX12_plain_277 sM_0 (by decide) rfl rfl gm_X12_isWell ml_X12_302 rfl (Nat.le_of_ble_eq_true rfl) (JC.mono h ?_)
    clear h
    rintro M1 _ ⟨b1, rfl, h⟩
    refine jw_st (st' := [.int (jb b1)]) rfl ?_
    refine jw_if_ne (pc := 280) (tgt := 285) dX12_plain_280 (by decide) (fun c => ?_) (fun c => ?_)
    · replace h := h.1 (jb_ne c)
      refine jw_iconst (pc := 285) (v := 0) dX12_plain_285 rfl ?_
      refine jw_istore_n (pc := 286) (ls' := [(2, .int (0 : Int32)), (0, .ref (x.2.2.2 0))]) dX12_plain_286 rfl (by decide) rfl ?_
      exact jw_sub [1, 0] rfl h
    · replace h := h.2 ((jb_0 _).mp c)
      refine jw_iconst (pc := 283) (v := (-1)) dX12_plain_283 rfl ?_
      exact jw_iret (pc := 284) dX12_plain_284 rfl ⟨_, rfl, h⟩
  · replace h := h.2 c
    refine jw_aload_n (pc := 154) (j := 0) dX12_plain_154 rfl rfl ?_
    refine jw_getI (pc := 155) dX12_plain_155 sM_0 fl_X12_132 (by decide) rfl ?_
    refine jw_if_eq (pc := 158) (tgt := 276) dX12_plain_158 (by decide) (fun c => ?_) (fun c => ?_)
    · replace h := h.1 c
      refine jw_aload_n (pc := 276) (j := 0) dX12_plain_276 rfl rfl ?_
      refine jw_callV (pc := 277) (m2 := mX12_isWell) (As := []) (st := []) dX12_plain_277 sM_0 (by decide) rfl rfl gm_X12_isWell ml_X12_302 rfl (Nat.le_of_ble_eq_true rfl) (JC.mono h ?_)
      clear h
      rintro M2 _ ⟨b2, rfl, h⟩
      refine jw_st (st' := [.int (jb b2)]) rfl ?_
      refine jw_if_ne (pc := 280) (tgt := 285) dX12_plain_280 (by decide) (fun c => ?_) (fun c => ?_)
      · replace h := h.1 (jb_ne c)
        refine jw_iconst (pc := 285) (v := 0) dX12_plain_285 rfl ?_
        refine jw_istore_n (pc := 286) (ls' := [(2, .int (0 : Int32)), (0, .ref (x.2.2.2 0))]) dX12_plain_286 rfl (by decide) rfl ?_
        exact jw_sub [1, 0] rfl h
      · replace h := h.2 ((jb_0 _).mp c)
        refine jw_iconst (pc := 283) (v := (-1)) dX12_plain_283 rfl ?_
        exact jw_iret (pc := 284) dX12_plain_284 rfl ⟨_, rfl, h⟩
    · replace h := h.2 c
      refine jw_aload_n (pc := 161) (j := 0) dX12_plain_161 rfl rfl ?_
      refine jw_callV (pc := 162) (m2 := mX12_isMost) (As := []) (st := []) dX12_plain_162 sM_0 (by decide) rfl rfl gm_X12_isMost ml_X12_175 rfl (Nat.le_of_ble_eq_true rfl) (JC.mono h ?_)
      clear h
      rintro M3 _ ⟨b3, rfl, h⟩
      refine jw_st (st' := [.int (jb b3)]) rfl ?_
      refine jw_if_eq (pc := 165) (tgt := 189) dX12_plain_165 (by decide) (fun c => ?_) (fun c => ?_)
      · replace h := h.1 ((jb_0 _).mp c)
        refine jw_aload_n (pc := 189) (j := 0) dX12_plain_189 rfl rfl ?_
        refine jw_callV (pc := 190) (m2 := mX12_isLeast) (As := []) (st := []) dX12_plain_190 sM_0 (by decide) rfl rfl gm_X12_isLeast ml_X12_178 rfl (Nat.le_of_ble_eq_true rfl) (JC.mono h ?_)
        clear h
        rintro M4 _ ⟨b4, rfl, h⟩
        refine jw_st (st' := [.int (jb b4)]) rfl ?_
        refine jw_if_eq (pc := 193) (tgt := 217) dX12_plain_193 (by decide) (fun c => ?_) (fun c => ?_)
        · replace h := h.1 ((jb_0 _).mp c)
          refine jw_aload_n (pc := 217) (j := 0) dX12_plain_217 rfl rfl ?_
          refine jw_callV (pc := 218) (m2 := mX12_isPrice) (As := []) (st := []) dX12_plain_218 sM_0 (by decide) rfl rfl gm_X12_isPrice ml_X12_181 rfl (Nat.le_of_ble_eq_true rfl) (JC.mono h ?_)
          clear h
          rintro M5 _ ⟨b5, rfl, h⟩
          refine jw_st (st' := [.int (jb b5)]) rfl ?_
          refine jw_if_eq (pc := 221) (tgt := 245) dX12_plain_221 (by decide) (fun c => ?_) (fun c => ?_)
          · replace h := h.1 ((jb_0 _).mp c)
            refine jw_aload_n (pc := 245) (j := 0) dX12_plain_245 rfl rfl ?_
            refine jw_callV (pc := 246) (m2 := mX12_isVillageWord) (As := []) (st := []) dX12_plain_246 sM_0 (by decide) rfl rfl gm_X12_isVillageWord ml_X12_184 rfl (Nat.le_of_ble_eq_true rfl) (JC.mono h ?_)
            clear h
            rintro M6 _ ⟨b6, rfl, h⟩
            refine jw_st (st' := [.int (jb b6)]) rfl ?_
            refine jw_if_eq (pc := 249) (tgt := 259) dX12_plain_249 (by decide) (fun c => ?_) (fun c => ?_)
            · replace h := h.1 ((jb_0 _).mp c)
              refine jw_aload_n (pc := 259) (j := 0) dX12_plain_259 rfl rfl ?_
              refine jw_callV (pc := 260) (m2 := mX12_wrong) (As := []) (st := []) dX12_plain_260 sM_0 (by decide) rfl rfl gm_X12_wrong ml_X12_242 rfl (Nat.le_of_ble_eq_true rfl) (JC.mono h ?_)
              clear h
              rintro M7 _ ⟨rfl, h⟩
              refine jw_st (st' := []) rfl ?_
              refine jw_aload_n (pc := 263) (j := 0) dX12_plain_263 rfl rfl ?_
              refine jw_aload_n (pc := 264) (j := 0) dX12_plain_264 rfl rfl ?_
              refine jw_bipush (pc := 265) (v := 59) dX12_plain_265 rfl ?_
              refine jw_callV (pc := 267) (m2 := mX12_isSign) (As := [.int (59 : Int32)]) (st := [.ref (x.2.2.2 0)]) dX12_plain_267 sM_0 (by decide) rfl rfl gm_X12_isSign ml_X12_252 rfl (Nat.le_of_ble_eq_true rfl) (JC.mono h ?_)
              clear h
              rintro M8 _ ⟨b7, rfl, h⟩
              refine jw_st (st' := [.int (jb b7), .ref (x.2.2.2 0)]) rfl ?_
              refine jw_callV (pc := 270) (m2 := mX12_must) (As := [.int (jb b7)]) (st := []) dX12_plain_270 sM_0 (by decide) rfl rfl gm_X12_must ml_X12_265 rfl (Nat.le_of_ble_eq_true rfl) (JC.mono h ?_)
              clear h
              rintro M9 _ ⟨rfl, h⟩
              refine jw_st (st' := []) rfl ?_
              refine jw_goto (pc := 273) (tgt := 147) dX12_plain_273 (by decide) ?_
              exact jw_sub [0] rfl h
            · replace h := h.2 (jb_ne c)
              refine jw_aload_n (pc := 252) (j := 0) dX12_plain_252 rfl rfl ?_
              refine jw_callV (pc := 253) (m2 := mX12_readVillage) (As := []) (st := []) dX12_plain_253 sM_0 (by decide) rfl rfl gm_X12_readVillage ml_X12_299 rfl (Nat.le_of_ble_eq_true rfl) (JC.mono h ?_)
              clear h
              rintro M10 _ ⟨rfl, h⟩
              refine jw_st (st' := []) rfl ?_
              refine jw_goto (pc := 256) (tgt := 263) dX12_plain_256 (by decide) ?_
              refine jw_aload_n (pc := 263) (j := 0) dX12_plain_263 rfl rfl ?_
              refine jw_aload_n (pc := 264) (j := 0) dX12_plain_264 rfl rfl ?_
              refine jw_bipush (pc := 265) (v := 59) dX12_plain_265 rfl ?_
              refine jw_callV (pc := 267) (m2 := mX12_isSign) (As := [.int (59 : Int32)]) (st := [.ref (x.2.2.2 0)]) dX12_plain_267 sM_0 (by decide) rfl rfl gm_X12_isSign ml_X12_252 rfl (Nat.le_of_ble_eq_true rfl) (JC.mono h ?_)
              clear h
              rintro M11 _ ⟨b8, rfl, h⟩
              refine jw_st (st' := [.int (jb b8), .ref (x.2.2.2 0)]) rfl ?_
              refine jw_callV (pc := 270) (m2 := mX12_must) (As := [.int (jb b8)]) (st := []) dX12_plain_270 sM_0 (by decide) rfl rfl gm_X12_must ml_X12_265 rfl (Nat.le_of_ble_eq_true rfl) (JC.mono h ?_)
              clear h
              rintro M12 _ ⟨rfl, h⟩
              refine jw_st (st' := []) rfl ?_
              refine jw_goto (pc := 273) (tgt := 147) dX12_plain_273 (by decide) ?_
              exact jw_sub [0] rfl h
          · replace h := h.2 (jb_ne c)
            refine jw_aload_n (pc := 224) (j := 0) dX12_plain_224 rfl rfl ?_
            refine jw_aload_n (pc := 225) (j := 0) dX12_plain_225 rfl rfl ?_
            refine jw_sipush (pc := 226) (v := 1701) dX12_plain_226 rfl ?_
            refine jw_aload_n (pc := 229) (j := 0) dX12_plain_229 rfl rfl ?_
            refine jw_getI (pc := 230) dX12_plain_230 sM_0 fl_X12_289 (by decide) rfl ?_
            refine jw_iconst (pc := 233) (v := 1) dX12_plain_233 rfl ?_
            refine jw_bipush (pc := 234) (v := 99) dX12_plain_234 rfl ?_
            refine jw_callV (pc := 236) (m2 := mX12_readCells) (As := [.int (1701 : Int32), .int (M5.1 0 21), .int (1 : Int32), .int (99 : Int32)]) (st := [.ref (x.2.2.2 0)]) dX12_plain_236 sM_0 (by decide) rfl rfl gm_X12_readCells ml_X12_295 rfl (Nat.le_of_ble_eq_true rfl) (JC.mono h ?_)
            clear h
            rintro M13 _ ⟨r1, rfl, h⟩
            refine jw_st (st' := [.int r1, .ref (x.2.2.2 0)]) rfl ?_
            refine jw_putI (pc := 239) dX12_plain_239 sM_0 fl_X12_289 fw_12_21 (by decide) rfl ?_
            replace h := h _ rfl
            generalize jrI M13 0 (upd (M13.1 0) 21 r1) = M14 at h ⊢
            refine jw_goto (pc := 242) (tgt := 263) dX12_plain_242 (by decide) ?_
            refine jw_aload_n (pc := 263) (j := 0) dX12_plain_263 rfl rfl ?_
            refine jw_aload_n (pc := 264) (j := 0) dX12_plain_264 rfl rfl ?_
            refine jw_bipush (pc := 265) (v := 59) dX12_plain_265 rfl ?_
            refine jw_callV (pc := 267) (m2 := mX12_isSign) (As := [.int (59 : Int32)]) (st := [.ref (x.2.2.2 0)]) dX12_plain_267 sM_0 (by decide) rfl rfl gm_X12_isSign ml_X12_252 rfl (Nat.le_of_ble_eq_true rfl) (JC.mono h ?_)
            clear h
            rintro M15 _ ⟨b9, rfl, h⟩
            refine jw_st (st' := [.int (jb b9), .ref (x.2.2.2 0)]) rfl ?_
            refine jw_callV (pc := 270) (m2 := mX12_must) (As := [.int (jb b9)]) (st := []) dX12_plain_270 sM_0 (by decide) rfl rfl gm_X12_must ml_X12_265 rfl (Nat.le_of_ble_eq_true rfl) (JC.mono h ?_)
            clear h
            rintro M16 _ ⟨rfl, h⟩
            refine jw_st (st' := []) rfl ?_
            refine jw_goto (pc := 273) (tgt := 147) dX12_plain_273 (by decide) ?_
            exact jw_sub [0] rfl h
        · replace h := h.2 (jb_ne c)
          refine jw_aload_n (pc := 196) (j := 0) dX12_plain_196 rfl rfl ?_
          refine jw_aload_n (pc := 197) (j := 0) dX12_plain_197 rfl rfl ?_
          refine jw_sipush (pc := 198) (v := 1676) dX12_plain_198 rfl ?_
          refine jw_aload_n (pc := 201) (j := 0) dX12_plain_201 rfl rfl ?_
          refine jw_getI (pc := 202) dX12_plain_202 sM_0 fl_X12_286 (by decide) rfl ?_
          refine jw_iconst (pc := 205) (v := 0) dX12_plain_205 rfl ?_
          refine jw_bipush (pc := 206) (v := 99) dX12_plain_206 rfl ?_
          refine jw_callV (pc := 208) (m2 := mX12_readCells) (As := [.int (1676 : Int32), .int (M4.1 0 20), .int (0 : Int32), .int (99 : Int32)]) (st := [.ref (x.2.2.2 0)]) dX12_plain_208 sM_0 (by decide) rfl rfl gm_X12_readCells ml_X12_295 rfl (Nat.le_of_ble_eq_true rfl) (JC.mono h ?_)
          clear h
          rintro M17 _ ⟨r2, rfl, h⟩
          refine jw_st (st' := [.int r2, .ref (x.2.2.2 0)]) rfl ?_
          refine jw_putI (pc := 211) dX12_plain_211 sM_0 fl_X12_286 fw_12_20 (by decide) rfl ?_
          replace h := h _ rfl
          generalize jrI M17 0 (upd (M17.1 0) 20 r2) = M18 at h ⊢
          refine jw_goto (pc := 214) (tgt := 263) dX12_plain_214 (by decide) ?_
          refine jw_aload_n (pc := 263) (j := 0) dX12_plain_263 rfl rfl ?_
          refine jw_aload_n (pc := 264) (j := 0) dX12_plain_264 rfl rfl ?_
          refine jw_bipush (pc := 265) (v := 59) dX12_plain_265 rfl ?_
          refine jw_callV (pc := 267) (m2 := mX12_isSign) (As := [.int (59 : Int32)]) (st := [.ref (x.2.2.2 0)]) dX12_plain_267 sM_0 (by decide) rfl rfl gm_X12_isSign ml_X12_252 rfl (Nat.le_of_ble_eq_true rfl) (JC.mono h ?_)
          clear h
          rintro M19 _ ⟨b10, rfl, h⟩
          refine jw_st (st' := [.int (jb b10), .ref (x.2.2.2 0)]) rfl ?_
          refine jw_callV (pc := 270) (m2 := mX12_must) (As := [.int (jb b10)]) (st := []) dX12_plain_270 sM_0 (by decide) rfl rfl gm_X12_must ml_X12_265 rfl (Nat.le_of_ble_eq_true rfl) (JC.mono h ?_)
          clear h
          rintro M20 _ ⟨rfl, h⟩
          refine jw_st (st' := []) rfl ?_
          refine jw_goto (pc := 273) (tgt := 147) dX12_plain_273 (by decide) ?_
          exact jw_sub [0] rfl h
      · replace h := h.2 (jb_ne c)
        refine jw_aload_n (pc := 168) (j := 0) dX12_plain_168 rfl rfl ?_
        refine jw_aload_n (pc := 169) (j := 0) dX12_plain_169 rfl rfl ?_
        refine jw_sipush (pc := 170) (v := 1651) dX12_plain_170 rfl ?_
        refine jw_aload_n (pc := 173) (j := 0) dX12_plain_173 rfl rfl ?_
        refine jw_getI (pc := 174) dX12_plain_174 sM_0 fl_X12_283 (by decide) rfl ?_
        refine jw_iconst (pc := 177) (v := 0) dX12_plain_177 rfl ?_
        refine jw_bipush (pc := 178) (v := 99) dX12_plain_178 rfl ?_
        refine jw_callV (pc := 180) (m2 := mX12_readCells) (As := [.int (1651 : Int32), .int (M3.1 0 19), .int (0 : Int32), .int (99 : Int32)]) (st := [.ref (x.2.2.2 0)]) dX12_plain_180 sM_0 (by decide) rfl rfl gm_X12_readCells ml_X12_295 rfl (Nat.le_of_ble_eq_true rfl) (JC.mono h ?_)
        clear h
        rintro M21 _ ⟨r3, rfl, h⟩
        refine jw_st (st' := [.int r3, .ref (x.2.2.2 0)]) rfl ?_
        refine jw_putI (pc := 183) dX12_plain_183 sM_0 fl_X12_283 fw_12_19 (by decide) rfl ?_
        replace h := h _ rfl
        generalize jrI M21 0 (upd (M21.1 0) 19 r3) = M22 at h ⊢
        refine jw_goto (pc := 186) (tgt := 263) dX12_plain_186 (by decide) ?_
        refine jw_aload_n (pc := 263) (j := 0) dX12_plain_263 rfl rfl ?_
        refine jw_aload_n (pc := 264) (j := 0) dX12_plain_264 rfl rfl ?_
        refine jw_bipush (pc := 265) (v := 59) dX12_plain_265 rfl ?_
        refine jw_callV (pc := 267) (m2 := mX12_isSign) (As := [.int (59 : Int32)]) (st := [.ref (x.2.2.2 0)]) dX12_plain_267 sM_0 (by decide) rfl rfl gm_X12_isSign ml_X12_252 rfl (Nat.le_of_ble_eq_true rfl) (JC.mono h ?_)
        clear h
        rintro M23 _ ⟨b11, rfl, h⟩
        refine jw_st (st' := [.int (jb b11), .ref (x.2.2.2 0)]) rfl ?_
        refine jw_callV (pc := 270) (m2 := mX12_must) (As := [.int (jb b11)]) (st := []) dX12_plain_270 sM_0 (by decide) rfl rfl gm_X12_must ml_X12_265 rfl (Nat.le_of_ble_eq_true rfl) (JC.mono h ?_)
        clear h
        rintro M24 _ ⟨rfl, h⟩
        refine jw_st (st' := []) rfl ?_
        refine jw_goto (pc := 273) (tgt := 147) dX12_plain_273 (by decide) ?_
        exact jw_sub [0] rfl h
set_option maxRecDepth 20000 in
theorem b_X12_plain_287 {x : jX} {d : Nat} {M : jM} {P : jM → Int32 → Prop} {l2 : Int32} 
    (h : ((412 : Int32) ≤ l2 → JW x jtbM mX12_plain (d + 1) (jI P) 318 [(0, .ref (x.2.2.2 0)), (2, .int (0 : Int32))] [] M) ∧ (¬ (412 : Int32) ≤ l2 → ∃ j1, j1 < 2060 ∧ (1648 : Int32) + l2 = nI j1 ∧ (∃ j2, j2 < 2060 ∧ l2 = nI j2 ∧ (∀ M1, M1 = jrI M 5 (upd (M.1 5) j2 (M.1 5 j1)) → JW x jtbM mX12_plain (d + 1) (jI P) 287 [(0, .ref (x.2.2.2 0)), (2, .int (l2 + 1))] [] M1)))) :
    JW x jtbM mX12_plain (d + 1) (jI P) 287 [(0, .ref (x.2.2.2 0)), (2, .int l2)] [] M := by
  refine jw_iload_n (pc := 287) (j := 1) dX12_plain_287 rfl rfl ?_
  refine jw_sipush (pc := 288) (v := 412) dX12_plain_288 rfl ?_
  refine jw_icmp_ge (pc := 291) (tgt := 316) dX12_plain_291 (by decide) (fun c => ?_) (fun c => ?_)
  · replace h := h.1 c
    refine jw_iconst (pc := 316) (v := 0) dX12_plain_316 rfl ?_
    refine jw_istore_n (pc := 317) (ls' := [(2, .int (0 : Int32)), (0, .ref (x.2.2.2 0))]) dX12_plain_317 rfl (by decide) rfl ?_
    exact jw_sub [1, 0] rfl h
  · replace h := h.2 c
    refine jw_aload_n (pc := 294) (j := 0) dX12_plain_294 rfl rfl ?_
    refine jw_getR (pc := 295) (r := 5) dX12_plain_295 sM_0 fl_X12_35 (by decide) rfl rfl ?_
    refine jw_iload_n (pc := 298) (j := 1) dX12_plain_298 rfl rfl ?_
    refine jw_aload_n (pc := 299) (j := 0) dX12_plain_299 rfl rfl ?_
    refine jw_getR (pc := 300) (r := 5) dX12_plain_300 sM_0 fl_X12_35 (by decide) rfl rfl ?_
    refine jw_sipush (pc := 303) (v := 1648) dX12_plain_303 rfl ?_
    refine jw_iload_n (pc := 306) (j := 1) dX12_plain_306 rfl rfl ?_
    refine jw_iadd (pc := 307) dX12_plain_307 ?_
    obtain ⟨j1, hj1, ej1, h⟩ := h
    refine jw_iald (pc := 308) (j := j1) dX12_plain_308 sM_5 hj1 ej1 (by decide) ?_
    obtain ⟨j2, hj2, ej2, h⟩ := h
    refine jw_iast (pc := 309) (j := j2) dX12_plain_309 sM_5 hj2 ej2 (by decide) ?_
    replace h := h _ rfl
    generalize jrI M 5 (upd (M.1 5) j2 (M.1 5 j1)) = M1 at h ⊢
    refine jw_iinc (pc := 310) (j := 1) (u := l2 + 1) (ls' := [(2, .int (l2 + 1)), (0, .ref (x.2.2.2 0))]) dX12_plain_310 rfl rfl (by decide) rfl ?_
    refine jw_goto (pc := 313) (tgt := 287) dX12_plain_313 (by decide) ?_
    exact jw_sub [1, 0] rfl h
set_option maxRecDepth 20000 in
theorem b_X12_plain_318 {x : jX} {d : Nat} {M : jM} {P : jM → Int32 → Prop} {l2 : Int32} 
    (h : ((6 : Int32) ≤ l2 → JW x jtbM mX12_plain (d + 1) (jI P) 347 [(0, .ref (x.2.2.2 0)), (2, .int (0 : Int32))] [] M) ∧ (¬ (6 : Int32) ≤ l2 → ∃ j1, j1 < 30 ∧ (24 : Int32) + l2 = nI j1 ∧ (∃ j2, j2 < 30 ∧ l2 = nI j2 ∧ (∀ M1, M1 = jrL M 6 (vp_updL (M.2 6) j2 (M.2 6 j1)) → JW x jtbM mX12_plain (d + 1) (jI P) 318 [(0, .ref (x.2.2.2 0)), (2, .int (l2 + 1))] [] M1)))) :
    JW x jtbM mX12_plain (d + 1) (jI P) 318 [(0, .ref (x.2.2.2 0)), (2, .int l2)] [] M := by
  refine jw_iload_n (pc := 318) (j := 1) dX12_plain_318 rfl rfl ?_
  refine jw_bipush (pc := 319) (v := 6) dX12_plain_319 rfl ?_
  refine jw_icmp_ge (pc := 321) (tgt := 345) dX12_plain_321 (by decide) (fun c => ?_) (fun c => ?_)
  · replace h := h.1 c
    refine jw_iconst (pc := 345) (v := 0) dX12_plain_345 rfl ?_
    refine jw_istore_n (pc := 346) (ls' := [(2, .int (0 : Int32)), (0, .ref (x.2.2.2 0))]) dX12_plain_346 rfl (by decide) rfl ?_
    exact jw_sub [1, 0] rfl h
  · replace h := h.2 c
    refine jw_aload_n (pc := 324) (j := 0) dX12_plain_324 rfl rfl ?_
    refine jw_getR (pc := 325) (r := 6) dX12_plain_325 sM_0 fl_X12_38 (by decide) rfl rfl ?_
    refine jw_iload_n (pc := 328) (j := 1) dX12_plain_328 rfl rfl ?_
    refine jw_aload_n (pc := 329) (j := 0) dX12_plain_329 rfl rfl ?_
    refine jw_getR (pc := 330) (r := 6) dX12_plain_330 sM_0 fl_X12_38 (by decide) rfl rfl ?_
    refine jw_bipush (pc := 333) (v := 24) dX12_plain_333 rfl ?_
    refine jw_iload_n (pc := 335) (j := 1) dX12_plain_335 rfl rfl ?_
    refine jw_iadd (pc := 336) dX12_plain_336 ?_
    obtain ⟨j1, hj1, ej1, h⟩ := h
    refine jw_lald (pc := 337) (j := j1) dX12_plain_337 sM_6 hj1 ej1 (by decide) ?_
    obtain ⟨j2, hj2, ej2, h⟩ := h
    refine jw_last (pc := 338) (j := j2) dX12_plain_338 sM_6 hj2 ej2 (by decide) ?_
    replace h := h _ rfl
    generalize jrL M 6 (vp_updL (M.2 6) j2 (M.2 6 j1)) = M1 at h ⊢
    refine jw_iinc (pc := 339) (j := 1) (u := l2 + 1) (ls' := [(2, .int (l2 + 1)), (0, .ref (x.2.2.2 0))]) dX12_plain_339 rfl rfl (by decide) rfl ?_
    refine jw_goto (pc := 342) (tgt := 318) dX12_plain_342 (by decide) ?_
    exact jw_sub [1, 0] rfl h
set_option maxRecDepth 20000 in
theorem b_X12_plain_347 {x : jX} {d : Nat} {M : jM} {P : jM → Int32 → Prop} {l2 : Int32} 
    (h : JC x jtbM mX12_cells d [.ref (x.2.2.2 0)] M (jI fun M1 r1 => (r1 ≤ l2 → JC x jtbM mX12_cells d [.ref (x.2.2.2 0)] M1 (jI fun M2 r2 => P M2 r2)) ∧ (¬ r1 ≤ l2 → ∃ j1, j1 < 2060 ∧ (28 : Int32) + l2 = nI j1 ∧ (∃ j2, j2 < 2060 ∧ (144 : Int32) + l2 = nI j2 ∧ (∀ M3, M3 = jrI M1 5 (upd (M1.1 5) j2 (M1.1 5 j1)) → JW x jtbM mX12_plain (d + 1) (jI P) 347 [(0, .ref (x.2.2.2 0)), (2, .int (l2 + 1))] [] M3))))) :
    JW x jtbM mX12_plain (d + 1) (jI P) 347 [(0, .ref (x.2.2.2 0)), (2, .int l2)] [] M := by
  refine jw_iload_n (pc := 347) (j := 1) dX12_plain_347 rfl rfl ?_
  refine jw_aload_n (pc := 348) (j := 0) dX12_plain_348 rfl rfl ?_
  refine jw_callV (pc := 349) (m2 := mX12_cells) (As := []) (st := [.int l2]) dX12_plain_349 sM_0 (by decide) rfl rfl gm_X12_cells ml_X12_305 rfl (Nat.le_of_ble_eq_true rfl) (JC.mono h ?_)
  clear h
  rintro M1 _ ⟨r1, rfl, h⟩
  refine jw_st (st' := [.int r1, .int l2]) rfl ?_
  refine jw_icmp_ge (pc := 352) (tgt := 380) dX12_plain_352 (by decide) (fun c => ?_) (fun c => ?_)
  · replace h := h.1 c
    refine jw_aload_n (pc := 380) (j := 0) dX12_plain_380 rfl rfl ?_
    refine jw_callV (pc := 381) (m2 := mX12_cells) (As := []) (st := []) dX12_plain_381 sM_0 (by decide) rfl rfl gm_X12_cells ml_X12_305 rfl (Nat.le_of_ble_eq_true rfl) (JC.mono h ?_)
    clear h
    rintro M2 _ ⟨r2, rfl, h⟩
    refine jw_st (st' := [.int r2]) rfl ?_
    exact jw_iret (pc := 384) dX12_plain_384 rfl ⟨_, rfl, h⟩
  · replace h := h.2 c
    refine jw_aload_n (pc := 355) (j := 0) dX12_plain_355 rfl rfl ?_
    refine jw_getR (pc := 356) (r := 5) dX12_plain_356 sM_0 fl_X12_35 (by decide) rfl rfl ?_
    refine jw_sipush (pc := 359) (v := 144) dX12_plain_359 rfl ?_
    refine jw_iload_n (pc := 362) (j := 1) dX12_plain_362 rfl rfl ?_
    refine jw_iadd (pc := 363) dX12_plain_363 ?_
    refine jw_aload_n (pc := 364) (j := 0) dX12_plain_364 rfl rfl ?_
    refine jw_getR (pc := 365) (r := 5) dX12_plain_365 sM_0 fl_X12_35 (by decide) rfl rfl ?_
    refine jw_bipush (pc := 368) (v := 28) dX12_plain_368 rfl ?_
    refine jw_iload_n (pc := 370) (j := 1) dX12_plain_370 rfl rfl ?_
    refine jw_iadd (pc := 371) dX12_plain_371 ?_
    obtain ⟨j1, hj1, ej1, h⟩ := h
    refine jw_iald (pc := 372) (j := j1) dX12_plain_372 sM_5 hj1 ej1 (by decide) ?_
    obtain ⟨j2, hj2, ej2, h⟩ := h
    refine jw_iast (pc := 373) (j := j2) dX12_plain_373 sM_5 hj2 ej2 (by decide) ?_
    replace h := h _ rfl
    generalize jrI M1 5 (upd (M1.1 5) j2 (M1.1 5 j1)) = M3 at h ⊢
    refine jw_iinc (pc := 374) (j := 1) (u := l2 + 1) (ls' := [(2, .int (l2 + 1)), (0, .ref (x.2.2.2 0))]) dX12_plain_374 rfl rfl (by decide) rfl ?_
    refine jw_goto (pc := 377) (tgt := 347) dX12_plain_377 (by decide) ?_
    exact jw_sub [1, 0] rfl h
set_option maxRecDepth 20000 in
theorem b_X12_cells {x : jX} {d : Nat} {M : jM} {P : jM → Int32 → Prop}  
    (h : P M ((M.1 5 0) * (M.1 5 1))) :
    JC x jtbM mX12_cells d [.ref (x.2.2.2 0)] M (jI P) := by
  refine JC.of rfl (Nat.le_of_ble_eq_true rfl) ?_
  refine jw_ls (ls' := [(0, .ref (x.2.2.2 0))]) rfl ?_
  refine jw_aload_n (pc := 0) (j := 0) dX12_cells_0 rfl rfl ?_
  refine jw_getR (pc := 1) (r := 5) dX12_cells_1 sM_0 fl_X12_35 (by decide) rfl rfl ?_
  refine jw_iconst (pc := 4) (v := 0) dX12_cells_4 rfl ?_
  refine jw_iald (pc := 5) (j := 0) dX12_cells_5 sM_5 (by decide) rfl (by decide) ?_
  refine jw_aload_n (pc := 6) (j := 0) dX12_cells_6 rfl rfl ?_
  refine jw_getR (pc := 7) (r := 5) dX12_cells_7 sM_0 fl_X12_35 (by decide) rfl rfl ?_
  refine jw_iconst (pc := 10) (v := 1) dX12_cells_10 rfl ?_
  refine jw_iald (pc := 11) (j := 1) dX12_cells_11 sM_5 (by decide) rfl (by decide) ?_
  refine jw_imul (pc := 12) dX12_cells_12 ?_
  exact jw_iret (pc := 13) dX12_cells_13 rfl ⟨_, rfl, h⟩
set_option maxRecDepth 20000 in
theorem b_X12_isCell {x : jX} {d : Nat} {M : jM} {P : jM → Bool → Prop} {a1 : Int32} 
    (h : JC x jtbM mX12_cells d [.ref (x.2.2.2 0)] M (jI fun M1 r1 => JC x jtbM mX12_isIn d [.long a1.toInt64, .long (0 : Int64), .long ((r1 - (1 : Int32)).toInt64)] M1 (jZ fun M2 b1 => P M2 b1))) :
    JC x jtbM mX12_isCell (d + 1) [.ref (x.2.2.2 0), .int a1] M (jZ P) := by
  refine JC.of rfl (Nat.le_of_ble_eq_true rfl) ?_
  refine jw_ls (ls' := [(0, .ref (x.2.2.2 0)), (1, .int a1)]) rfl ?_
  refine jw_iload_n (pc := 0) (j := 1) dX12_isCell_0 rfl rfl ?_
  refine jw_i2l (pc := 1) dX12_isCell_1 ?_
  refine jw_lconst (pc := 2) (v := 0) dX12_isCell_2 rfl ?_
  refine jw_aload_n (pc := 3) (j := 0) dX12_isCell_3 rfl rfl ?_
  refine jw_callV (pc := 4) (m2 := mX12_cells) (As := []) (st := [.long (0 : Int64), .long a1.toInt64]) dX12_isCell_4 sM_0 (by decide) rfl rfl gm_X12_cells ml_X12_305 rfl (Nat.le_of_ble_eq_true rfl) (JC.mono h ?_)
  clear h
  rintro M1 _ ⟨r1, rfl, h⟩
  refine jw_st (st' := [.int r1, .long (0 : Int64), .long a1.toInt64]) rfl ?_
  refine jw_iconst (pc := 7) (v := 1) dX12_isCell_7 rfl ?_
  refine jw_isub (pc := 8) dX12_isCell_8 ?_
  refine jw_i2l (pc := 9) dX12_isCell_9 ?_
  refine jw_callS (pc := 10) (m2 := mX12_isIn) (As := [.long a1.toInt64, .long (0 : Int64), .long ((r1 - (1 : Int32)).toInt64)]) (st := []) dX12_isCell_10 gm_X12_isIn ml_X12_116 rfl (Nat.le_of_ble_eq_true rfl) (JC.mono h ?_)
  clear h
  rintro M2 _ ⟨b1, rfl, h⟩
  refine jw_st (st' := [.int (jb b1)]) rfl ?_
  exact jw_zret (pc := 13) dX12_isCell_13 rfl (jb_01 _) ⟨_, rfl, h⟩
set_option maxRecDepth 20000 in
theorem b_X12_isVillage {x : jX} {d : Nat} {M : jM} {P : jM → Bool → Prop} {a1 : Int32} 
    (h : JC x jtbM mX12_isIn d [.long a1.toInt64, .long (0 : Int64), .long (((M.1 5 2) - (1 : Int32)).toInt64)] M (jZ fun M1 b1 => P M1 b1)) :
    JC x jtbM mX12_isVillage (d + 1) [.ref (x.2.2.2 0), .int a1] M (jZ P) := by
  refine JC.of rfl (Nat.le_of_ble_eq_true rfl) ?_
  refine jw_ls (ls' := [(0, .ref (x.2.2.2 0)), (1, .int a1)]) rfl ?_
  refine jw_iload_n (pc := 0) (j := 1) dX12_isVillage_0 rfl rfl ?_
  refine jw_i2l (pc := 1) dX12_isVillage_1 ?_
  refine jw_lconst (pc := 2) (v := 0) dX12_isVillage_2 rfl ?_
  refine jw_aload_n (pc := 3) (j := 0) dX12_isVillage_3 rfl rfl ?_
  refine jw_getR (pc := 4) (r := 5) dX12_isVillage_4 sM_0 fl_X12_35 (by decide) rfl rfl ?_
  refine jw_iconst (pc := 7) (v := 2) dX12_isVillage_7 rfl ?_
  refine jw_iald (pc := 8) (j := 2) dX12_isVillage_8 sM_5 (by decide) rfl (by decide) ?_
  refine jw_iconst (pc := 9) (v := 1) dX12_isVillage_9 rfl ?_
  refine jw_isub (pc := 10) dX12_isVillage_10 ?_
  refine jw_i2l (pc := 11) dX12_isVillage_11 ?_
  refine jw_callS (pc := 12) (m2 := mX12_isIn) (As := [.long a1.toInt64, .long (0 : Int64), .long (((M.1 5 2) - (1 : Int32)).toInt64)]) (st := []) dX12_isVillage_12 gm_X12_isIn ml_X12_116 rfl (Nat.le_of_ble_eq_true rfl) (JC.mono h ?_)
  clear h
  rintro M1 _ ⟨b1, rfl, h⟩
  refine jw_st (st' := [.int (jb b1)]) rfl ?_
  exact jw_zret (pc := 15) dX12_isVillage_15 rfl (jb_01 _) ⟨_, rfl, h⟩
set_option maxRecDepth 20000 in
theorem b_X12_strips {x : jX} {d : Nat} {M : jM} {P : jM → Int32 → Prop} {a1 : Int32} 
    (h : ∃ j1, j1 < 2060 ∧ (78 : Int32) + a1 = nI j1 ∧ (JC x jtbM mX12_stripsOf d [.ref (x.2.2.2 0), .int (M.1 5 j1), .int (M.1 5 0), .int (M.1 5 1)] M (jI fun M1 r1 => P M1 r1))) :
    JC x jtbM mX12_strips (d + 1) [.ref (x.2.2.2 0), .int a1] M (jI P) := by
  refine JC.of rfl (Nat.le_of_ble_eq_true rfl) ?_
  refine jw_ls (ls' := [(0, .ref (x.2.2.2 0)), (1, .int a1)]) rfl ?_
  refine jw_aload_n (pc := 0) (j := 0) dX12_strips_0 rfl rfl ?_
  refine jw_aload_n (pc := 1) (j := 0) dX12_strips_1 rfl rfl ?_
  refine jw_getR (pc := 2) (r := 5) dX12_strips_2 sM_0 fl_X12_35 (by decide) rfl rfl ?_
  refine jw_bipush (pc := 5) (v := 78) dX12_strips_5 rfl ?_
  refine jw_iload_n (pc := 7) (j := 1) dX12_strips_7 rfl rfl ?_
  refine jw_iadd (pc := 8) dX12_strips_8 ?_
  obtain ⟨j1, hj1, ej1, h⟩ := h
  refine jw_iald (pc := 9) (j := j1) dX12_strips_9 sM_5 hj1 ej1 (by decide) ?_
  refine jw_aload_n (pc := 10) (j := 0) dX12_strips_10 rfl rfl ?_
  refine jw_getR (pc := 11) (r := 5) dX12_strips_11 sM_0 fl_X12_35 (by decide) rfl rfl ?_
  refine jw_iconst (pc := 14) (v := 0) dX12_strips_14 rfl ?_
  refine jw_iald (pc := 15) (j := 0) dX12_strips_15 sM_5 (by decide) rfl (by decide) ?_
  refine jw_aload_n (pc := 16) (j := 0) dX12_strips_16 rfl rfl ?_
  refine jw_getR (pc := 17) (r := 5) dX12_strips_17 sM_0 fl_X12_35 (by decide) rfl rfl ?_
  refine jw_iconst (pc := 20) (v := 1) dX12_strips_20 rfl ?_
  refine jw_iald (pc := 21) (j := 1) dX12_strips_21 sM_5 (by decide) rfl (by decide) ?_
  refine jw_callV (pc := 22) (m2 := mX12_stripsOf) (As := [.int (M.1 5 j1), .int (M.1 5 0), .int (M.1 5 1)]) (st := []) dX12_strips_22 sM_0 (by decide) rfl rfl gm_X12_stripsOf ml_X12_269 rfl (Nat.le_of_ble_eq_true rfl) (JC.mono h ?_)
  clear h
  rintro M1 _ ⟨r1, rfl, h⟩
  refine jw_st (st' := [.int r1]) rfl ?_
  exact jw_iret (pc := 25) dX12_strips_25 rfl ⟨_, rfl, h⟩
set_option maxRecDepth 20000 in
theorem b_X12_isStrip {x : jX} {d : Nat} {M : jM} {P : jM → Bool → Prop} {a1 : Int32} {a2 : Int32} 
    (h : JC x jtbM mX12_isVillage d [.ref (x.2.2.2 0), .int a1] M (jZ fun M1 b1 => (b1 = false → P M1 false) ∧ (b1 = true → JC x jtbM mX12_strips d [.ref (x.2.2.2 0), .int a1] M1 (jI fun M2 r1 => JC x jtbM mX12_isIn d [.long a2.toInt64, .long (0 : Int64), .long ((r1 - (1 : Int32)).toInt64)] M2 (jZ fun M3 b2 => (b2 = false → P M3 false) ∧ (b2 = true → P M3 true)))))) :
    JC x jtbM mX12_isStrip (d + 1) [.ref (x.2.2.2 0), .int a1, .int a2] M (jZ P) := by
  refine JC.of rfl (Nat.le_of_ble_eq_true rfl) ?_
  refine jw_ls (ls' := [(0, .ref (x.2.2.2 0)), (1, .int a1), (2, .int a2)]) rfl ?_
  refine jw_aload_n (pc := 0) (j := 0) dX12_isStrip_0 rfl rfl ?_
  refine jw_iload_n (pc := 1) (j := 1) dX12_isStrip_1 rfl rfl ?_
  refine jw_callV (pc := 2) (m2 := mX12_isVillage) (As := [.int a1]) (st := []) dX12_isStrip_2 sM_0 (by decide) rfl rfl gm_X12_isVillage ml_X12_308 rfl (Nat.le_of_ble_eq_true rfl) (JC.mono h ?_)
  clear h
  rintro M1 _ ⟨b1, rfl, h⟩
  refine jw_st (st' := [.int (jb b1)]) rfl ?_
  refine jw_if_eq (pc := 5) (tgt := 29) dX12_isStrip_5 (by decide) (fun c => ?_) (fun c => ?_)
  · replace h := h.1 ((jb_0 _).mp c)
    refine jw_iconst (pc := 29) (v := 0) dX12_isStrip_29 rfl ?_
    exact jw_zret (pc := 30) dX12_isStrip_30 rfl (Or.inl rfl) ⟨false, rfl, h⟩
  · replace h := h.2 (jb_ne c)
    refine jw_iload_n (pc := 8) (j := 2) dX12_isStrip_8 rfl rfl ?_
    refine jw_i2l (pc := 9) dX12_isStrip_9 ?_
    refine jw_lconst (pc := 10) (v := 0) dX12_isStrip_10 rfl ?_
    refine jw_aload_n (pc := 11) (j := 0) dX12_isStrip_11 rfl rfl ?_
    refine jw_iload_n (pc := 12) (j := 1) dX12_isStrip_12 rfl rfl ?_
    refine jw_callV (pc := 13) (m2 := mX12_strips) (As := [.int a1]) (st := [.long (0 : Int64), .long a2.toInt64]) dX12_isStrip_13 sM_0 (by decide) rfl rfl gm_X12_strips ml_X12_311 rfl (Nat.le_of_ble_eq_true rfl) (JC.mono h ?_)
    clear h
    rintro M2 _ ⟨r1, rfl, h⟩
    refine jw_st (st' := [.int r1, .long (0 : Int64), .long a2.toInt64]) rfl ?_
    refine jw_iconst (pc := 16) (v := 1) dX12_isStrip_16 rfl ?_
    refine jw_isub (pc := 17) dX12_isStrip_17 ?_
    refine jw_i2l (pc := 18) dX12_isStrip_18 ?_
    refine jw_callS (pc := 19) (m2 := mX12_isIn) (As := [.long a2.toInt64, .long (0 : Int64), .long ((r1 - (1 : Int32)).toInt64)]) (st := []) dX12_isStrip_19 gm_X12_isIn ml_X12_116 rfl (Nat.le_of_ble_eq_true rfl) (JC.mono h ?_)
    clear h
    rintro M3 _ ⟨b2, rfl, h⟩
    refine jw_st (st' := [.int (jb b2)]) rfl ?_
    refine jw_if_eq (pc := 22) (tgt := 29) dX12_isStrip_22 (by decide) (fun c => ?_) (fun c => ?_)
    · replace h := h.1 ((jb_0 _).mp c)
      refine jw_iconst (pc := 29) (v := 0) dX12_isStrip_29 rfl ?_
      exact jw_zret (pc := 30) dX12_isStrip_30 rfl (Or.inl rfl) ⟨false, rfl, h⟩
    · replace h := h.2 (jb_ne c)
      refine jw_iconst (pc := 25) (v := 1) dX12_isStrip_25 rfl ?_
      refine jw_goto (pc := 26) (tgt := 30) dX12_isStrip_26 (by decide) ?_
      exact jw_zret (pc := 30) dX12_isStrip_30 rfl (Or.inr rfl) ⟨true, rfl, h⟩
set_option maxRecDepth 20000 in
theorem b_X12_isSet {x : jX} {d : Nat} {M : jM} {P : jM → Bool → Prop} {a1 : Int32} 
    (h : JC x jtbM mX12_isIn d [.long a1.toInt64, .long (0 : Int64), .long ((((1 : Int32) <<< ((M.1 5 2) &&& 31)) - (1 : Int32)).toInt64)] M (jZ fun M1 b1 => P M1 b1)) :
    JC x jtbM mX12_isSet (d + 1) [.ref (x.2.2.2 0), .int a1] M (jZ P) := by
  refine JC.of rfl (Nat.le_of_ble_eq_true rfl) ?_
  refine jw_ls (ls' := [(0, .ref (x.2.2.2 0)), (1, .int a1)]) rfl ?_
  refine jw_iload_n (pc := 0) (j := 1) dX12_isSet_0 rfl rfl ?_
  refine jw_i2l (pc := 1) dX12_isSet_1 ?_
  refine jw_lconst (pc := 2) (v := 0) dX12_isSet_2 rfl ?_
  refine jw_iconst (pc := 3) (v := 1) dX12_isSet_3 rfl ?_
  refine jw_aload_n (pc := 4) (j := 0) dX12_isSet_4 rfl rfl ?_
  refine jw_getR (pc := 5) (r := 5) dX12_isSet_5 sM_0 fl_X12_35 (by decide) rfl rfl ?_
  refine jw_iconst (pc := 8) (v := 2) dX12_isSet_8 rfl ?_
  refine jw_iald (pc := 9) (j := 2) dX12_isSet_9 sM_5 (by decide) rfl (by decide) ?_
  refine jw_ishl (pc := 10) dX12_isSet_10 ?_
  refine jw_iconst (pc := 11) (v := 1) dX12_isSet_11 rfl ?_
  refine jw_isub (pc := 12) dX12_isSet_12 ?_
  refine jw_i2l (pc := 13) dX12_isSet_13 ?_
  refine jw_callS (pc := 14) (m2 := mX12_isIn) (As := [.long a1.toInt64, .long (0 : Int64), .long ((((1 : Int32) <<< ((M.1 5 2) &&& 31)) - (1 : Int32)).toInt64)]) (st := []) dX12_isSet_14 gm_X12_isIn ml_X12_116 rfl (Nat.le_of_ble_eq_true rfl) (JC.mono h ?_)
  clear h
  rintro M1 _ ⟨b1, rfl, h⟩
  refine jw_st (st' := [.int (jb b1)]) rfl ?_
  exact jw_zret (pc := 17) dX12_isSet_17 rfl (jb_01 _) ⟨_, rfl, h⟩
set_option maxRecDepth 20000 in
theorem b_X12_stripOf {x : jX} {d : Nat} {M : jM} {P : jM → Int32 → Prop} {a1 : Int32} {a2 : Int32} 
    (h : ¬ (M.1 5 0) = 0 ∧ (¬ (M.1 5 0) = 0 ∧ ((a1 = 0 → P M (((M.1 5 0) - (1 : Int32)) - (a2 - a2 / (M.1 5 0) * (M.1 5 0)))) ∧ (¬ a1 = 0 → (a1 = 1 → P M (((((M.1 5 0) + (M.1 5 1)) - (2 : Int32)) - (a2 - a2 / (M.1 5 0) * (M.1 5 0))) - (a2 / (M.1 5 0)))) ∧ (¬ a1 = 1 → (a1 = 2 → P M (((M.1 5 1) - (1 : Int32)) - (a2 / (M.1 5 0)))) ∧ (¬ a1 = 2 → (a1 = 3 → P M ((((a2 - a2 / (M.1 5 0) * (M.1 5 0)) - (a2 / (M.1 5 0))) + (M.1 5 1)) - (1 : Int32))) ∧ (¬ a1 = 3 → (a1 = 4 → P M (a2 - a2 / (M.1 5 0) * (M.1 5 0))) ∧ (¬ a1 = 4 → (a1 = 5 → P M ((a2 - a2 / (M.1 5 0) * (M.1 5 0)) + (a2 / (M.1 5 0)))) ∧ (¬ a1 = 5 → (a1 = 6 → P M (a2 / (M.1 5 0))) ∧ (¬ a1 = 6 → P M ((((M.1 5 0) - (1 : Int32)) - (a2 - a2 / (M.1 5 0) * (M.1 5 0))) + (a2 / (M.1 5 0))))))))))))) :
    JC x jtbM mX12_stripOf d [.ref (x.2.2.2 0), .int a1, .int a2] M (jI P) := by
  refine JC.of rfl (Nat.le_of_ble_eq_true rfl) ?_
  refine jw_ls (ls' := [(0, .ref (x.2.2.2 0)), (1, .int a1), (2, .int a2)]) rfl ?_
  refine jw_aload_n (pc := 0) (j := 0) dX12_stripOf_0 rfl rfl ?_
  refine jw_getR (pc := 1) (r := 5) dX12_stripOf_1 sM_0 fl_X12_35 (by decide) rfl rfl ?_
  refine jw_iconst (pc := 4) (v := 0) dX12_stripOf_4 rfl ?_
  refine jw_iald (pc := 5) (j := 0) dX12_stripOf_5 sM_5 (by decide) rfl (by decide) ?_
  refine jw_istore_n (pc := 6) (ls' := [(3, .int (M.1 5 0)), (0, .ref (x.2.2.2 0)), (1, .int a1), (2, .int a2)]) dX12_stripOf_6 rfl (by decide) rfl ?_
  refine jw_aload_n (pc := 7) (j := 1) dX12_stripOf_7 rfl rfl ?_
  refine jw_getR (pc := 8) (r := 5) dX12_stripOf_8 sM_0 fl_X12_35 (by decide) rfl rfl ?_
  refine jw_iconst (pc := 11) (v := 1) dX12_stripOf_11 rfl ?_
  refine jw_iald (pc := 12) (j := 1) dX12_stripOf_12 sM_5 (by decide) rfl (by decide) ?_
  refine jw_istore (pc := 13) (ls' := [(4, .int (M.1 5 1)), (3, .int (M.1 5 0)), (0, .ref (x.2.2.2 0)), (1, .int a1), (2, .int a2)]) dX12_stripOf_13 (by decide) rfl ?_
  refine jw_iload_n (pc := 15) (j := 4) dX12_stripOf_15 rfl rfl ?_
  refine jw_iload_n (pc := 16) (j := 1) dX12_stripOf_16 rfl rfl ?_
  obtain ⟨h0, h⟩ := h
  refine jw_irem (pc := 17) dX12_stripOf_17 h0 ?_
  refine jw_istore (pc := 18) (ls' := [(5, .int (a2 - a2 / (M.1 5 0) * (M.1 5 0))), (4, .int (M.1 5 1)), (3, .int (M.1 5 0)), (0, .ref (x.2.2.2 0)), (1, .int a1), (2, .int a2)]) dX12_stripOf_18 (by decide) rfl ?_
  refine jw_iload_n (pc := 20) (j := 5) dX12_stripOf_20 rfl rfl ?_
  refine jw_iload_n (pc := 21) (j := 2) dX12_stripOf_21 rfl rfl ?_
  obtain ⟨h0, h⟩ := h
  refine jw_idiv (pc := 22) dX12_stripOf_22 h0 ?_
  refine jw_istore (pc := 23) (ls' := [(6, .int (a2 / (M.1 5 0))), (5, .int (a2 - a2 / (M.1 5 0) * (M.1 5 0))), (4, .int (M.1 5 1)), (3, .int (M.1 5 0)), (0, .ref (x.2.2.2 0)), (1, .int a1), (2, .int a2)]) dX12_stripOf_23 (by decide) rfl ?_
  refine jw_iload_n (pc := 25) (j := 5) dX12_stripOf_25 rfl rfl ?_
  refine (Decidable.em (a1 = 0)).elim (fun c0 => ?_) (fun c0 => ?_)
  · replace h := h.1 c0
    refine jw_tableIn (pc := 26) (tgt := 68) dX12_stripOf_26 (by rw [c0]; decide) (by rw [c0]; decide) (by rw [c0]; rfl) (by decide) ?_
    refine jw_iload_n (pc := 68) (j := 3) dX12_stripOf_68 rfl rfl ?_
    refine jw_iconst (pc := 69) (v := 1) dX12_stripOf_69 rfl ?_
    refine jw_isub (pc := 70) dX12_stripOf_70 ?_
    refine jw_iload (pc := 71) (j := 1) dX12_stripOf_71 rfl ?_
    refine jw_isub (pc := 73) dX12_stripOf_73 ?_
    exact jw_iret (pc := 74) dX12_stripOf_74 rfl ⟨_, rfl, h⟩
  · replace h := h.2 c0
    refine (Decidable.em (a1 = 1)).elim (fun c1 => ?_) (fun c1 => ?_)
    · replace h := h.1 c1
      refine jw_tableIn (pc := 26) (tgt := 75) dX12_stripOf_26 (by rw [c1]; decide) (by rw [c1]; decide) (by rw [c1]; rfl) (by decide) ?_
      refine jw_iload_n (pc := 75) (j := 3) dX12_stripOf_75 rfl rfl ?_
      refine jw_iload (pc := 76) (j := 2) dX12_stripOf_76 rfl ?_
      refine jw_iadd (pc := 78) dX12_stripOf_78 ?_
      refine jw_iconst (pc := 79) (v := 2) dX12_stripOf_79 rfl ?_
      refine jw_isub (pc := 80) dX12_stripOf_80 ?_
      refine jw_iload (pc := 81) (j := 1) dX12_stripOf_81 rfl ?_
      refine jw_isub (pc := 83) dX12_stripOf_83 ?_
      refine jw_iload (pc := 84) (j := 0) dX12_stripOf_84 rfl ?_
      refine jw_isub (pc := 86) dX12_stripOf_86 ?_
      exact jw_iret (pc := 87) dX12_stripOf_87 rfl ⟨_, rfl, h⟩
    · replace h := h.2 c1
      refine (Decidable.em (a1 = 2)).elim (fun c2 => ?_) (fun c2 => ?_)
      · replace h := h.1 c2
        refine jw_tableIn (pc := 26) (tgt := 88) dX12_stripOf_26 (by rw [c2]; decide) (by rw [c2]; decide) (by rw [c2]; rfl) (by decide) ?_
        refine jw_iload (pc := 88) (j := 2) dX12_stripOf_88 rfl ?_
        refine jw_iconst (pc := 90) (v := 1) dX12_stripOf_90 rfl ?_
        refine jw_isub (pc := 91) dX12_stripOf_91 ?_
        refine jw_iload (pc := 92) (j := 0) dX12_stripOf_92 rfl ?_
        refine jw_isub (pc := 94) dX12_stripOf_94 ?_
        exact jw_iret (pc := 95) dX12_stripOf_95 rfl ⟨_, rfl, h⟩
      · replace h := h.2 c2
        refine (Decidable.em (a1 = 3)).elim (fun c3 => ?_) (fun c3 => ?_)
        · replace h := h.1 c3
          refine jw_tableIn (pc := 26) (tgt := 96) dX12_stripOf_26 (by rw [c3]; decide) (by rw [c3]; decide) (by rw [c3]; rfl) (by decide) ?_
          refine jw_iload (pc := 96) (j := 1) dX12_stripOf_96 rfl ?_
          refine jw_iload (pc := 98) (j := 0) dX12_stripOf_98 rfl ?_
          refine jw_isub (pc := 100) dX12_stripOf_100 ?_
          refine jw_iload (pc := 101) (j := 2) dX12_stripOf_101 rfl ?_
          refine jw_iadd (pc := 103) dX12_stripOf_103 ?_
          refine jw_iconst (pc := 104) (v := 1) dX12_stripOf_104 rfl ?_
          refine jw_isub (pc := 105) dX12_stripOf_105 ?_
          exact jw_iret (pc := 106) dX12_stripOf_106 rfl ⟨_, rfl, h⟩
        · replace h := h.2 c3
          refine (Decidable.em (a1 = 4)).elim (fun c4 => ?_) (fun c4 => ?_)
          · replace h := h.1 c4
            refine jw_tableIn (pc := 26) (tgt := 107) dX12_stripOf_26 (by rw [c4]; decide) (by rw [c4]; decide) (by rw [c4]; rfl) (by decide) ?_
            refine jw_iload (pc := 107) (j := 1) dX12_stripOf_107 rfl ?_
            exact jw_iret (pc := 109) dX12_stripOf_109 rfl ⟨_, rfl, h⟩
          · replace h := h.2 c4
            refine (Decidable.em (a1 = 5)).elim (fun c5 => ?_) (fun c5 => ?_)
            · replace h := h.1 c5
              refine jw_tableIn (pc := 26) (tgt := 110) dX12_stripOf_26 (by rw [c5]; decide) (by rw [c5]; decide) (by rw [c5]; rfl) (by decide) ?_
              refine jw_iload (pc := 110) (j := 1) dX12_stripOf_110 rfl ?_
              refine jw_iload (pc := 112) (j := 0) dX12_stripOf_112 rfl ?_
              refine jw_iadd (pc := 114) dX12_stripOf_114 ?_
              exact jw_iret (pc := 115) dX12_stripOf_115 rfl ⟨_, rfl, h⟩
            · replace h := h.2 c5
              refine (Decidable.em (a1 = 6)).elim (fun c6 => ?_) (fun c6 => ?_)
              · replace h := h.1 c6
                refine jw_tableIn (pc := 26) (tgt := 116) dX12_stripOf_26 (by rw [c6]; decide) (by rw [c6]; decide) (by rw [c6]; rfl) (by decide) ?_
                refine jw_iload (pc := 116) (j := 0) dX12_stripOf_116 rfl ?_
                exact jw_iret (pc := 118) dX12_stripOf_118 rfl ⟨_, rfl, h⟩
              · replace h := h.2 c6
                have e0 := jne_i (k := 0) (n := 0) c0 (by decide)
                have e1 := jne_i (k := 1) (n := 1) c1 (by decide)
                have e2 := jne_i (k := 2) (n := 2) c2 (by decide)
                have e3 := jne_i (k := 3) (n := 3) c3 (by decide)
                have e4 := jne_i (k := 4) (n := 4) c4 (by decide)
                have e5 := jne_i (k := 5) (n := 5) c5 (by decide)
                have e6 := jne_i (k := 6) (n := 6) c6 (by decide)
                refine jw_tableOut (pc := 26) (tgt := 119) dX12_stripOf_26 (by omega) (by decide) ?_
                refine jw_iload_n (pc := 119) (j := 3) dX12_stripOf_119 rfl rfl ?_
                refine jw_iconst (pc := 120) (v := 1) dX12_stripOf_120 rfl ?_
                refine jw_isub (pc := 121) dX12_stripOf_121 ?_
                refine jw_iload (pc := 122) (j := 1) dX12_stripOf_122 rfl ?_
                refine jw_isub (pc := 124) dX12_stripOf_124 ?_
                refine jw_iload (pc := 125) (j := 0) dX12_stripOf_125 rfl ?_
                refine jw_iadd (pc := 127) dX12_stripOf_127 ?_
                exact jw_iret (pc := 128) dX12_stripOf_128 rfl ⟨_, rfl, h⟩
set_option maxRecDepth 20000 in
theorem b_X12_many {x : jX} {d : Nat} {M : jM} {P : jM → Int32 → Prop} {a1 : Int32} 
    (h : ∀ M1, M1 = jrI M 0 (upd (M.1 0) 1 (0 : Int32)) → ∀ M2, M2 = jrI M1 0 (upd (M1.1 0) 0 (0 : Int32)) → JC x jtbM mX12_isIn d [.long a1.toInt64, .long (0 : Int64), .long (2 : Int64)] M2 (jZ fun M3 b1 => (b1 = false → JC x jtbM mX12_refuse d [.ref (x.2.2.2 0), .int (5 : Int32)] M3 (jI fun M4 r1 => P M4 r1)) ∧ (b1 = true → ∃ j1, j1 < 2060 ∧ a1 = nI j1 ∧ (P M3 (M3.1 5 j1))))) :
    JC x jtbM mX12_many (d + 1) [.ref (x.2.2.2 0), .int a1] M (jI P) := by
  refine JC.of rfl (Nat.le_of_ble_eq_true rfl) ?_
  refine jw_ls (ls' := [(0, .ref (x.2.2.2 0)), (1, .int a1)]) rfl ?_
  refine jw_aload_n (pc := 0) (j := 0) dX12_many_0 rfl rfl ?_
  refine jw_iconst (pc := 1) (v := 0) dX12_many_1 rfl ?_
  refine jw_putI (pc := 2) dX12_many_2 sM_0 fl_X12_81 fw_12_1 (by decide) rfl ?_
  replace h := h _ rfl
  generalize jrI M 0 (upd (M.1 0) 1 (0 : Int32)) = M1 at h ⊢
  refine jw_aload_n (pc := 5) (j := 0) dX12_many_5 rfl rfl ?_
  refine jw_iconst (pc := 6) (v := 0) dX12_many_6 rfl ?_
  refine jw_putI (pc := 7) dX12_many_7 sM_0 fl_X12_84 fw_12_0 (by decide) rfl ?_
  replace h := h _ rfl
  generalize jrI M1 0 (upd (M1.1 0) 0 (0 : Int32)) = M2 at h ⊢
  refine jw_iload_n (pc := 10) (j := 1) dX12_many_10 rfl rfl ?_
  refine jw_i2l (pc := 11) dX12_many_11 ?_
  refine jw_lconst (pc := 12) (v := 0) dX12_many_12 rfl ?_
  refine jw_ldc2 (pc := 13) (v := 2) dX12_many_13 kl_X12_314 ?_
  refine jw_callS (pc := 16) (m2 := mX12_isIn) (As := [.long a1.toInt64, .long (0 : Int64), .long (2 : Int64)]) (st := []) dX12_many_16 gm_X12_isIn ml_X12_116 rfl (Nat.le_of_ble_eq_true rfl) (JC.mono h ?_)
  clear h
  rintro M3 _ ⟨b1, rfl, h⟩
  refine jw_st (st' := [.int (jb b1)]) rfl ?_
  refine jw_if_eq (pc := 19) (tgt := 31) dX12_many_19 (by decide) (fun c => ?_) (fun c => ?_)
  · replace h := h.1 ((jb_0 _).mp c)
    refine jw_aload_n (pc := 31) (j := 0) dX12_many_31 rfl rfl ?_
    refine jw_iconst (pc := 32) (v := 5) dX12_many_32 rfl ?_
    refine jw_callV (pc := 33) (m2 := mX12_refuse) (As := [.int (5 : Int32)]) (st := []) dX12_many_33 sM_0 (by decide) rfl rfl gm_X12_refuse ml_X12_316 rfl (Nat.le_of_ble_eq_true rfl) (JC.mono h ?_)
    clear h
    rintro M4 _ ⟨r1, rfl, h⟩
    refine jw_st (st' := [.int r1]) rfl ?_
    exact jw_iret (pc := 36) dX12_many_36 rfl ⟨_, rfl, h⟩
  · replace h := h.2 (jb_ne c)
    refine jw_aload_n (pc := 22) (j := 0) dX12_many_22 rfl rfl ?_
    refine jw_getR (pc := 23) (r := 5) dX12_many_23 sM_0 fl_X12_35 (by decide) rfl rfl ?_
    refine jw_iload_n (pc := 26) (j := 1) dX12_many_26 rfl rfl ?_
    obtain ⟨j1, hj1, ej1, h⟩ := h
    refine jw_iald (pc := 27) (j := j1) dX12_many_27 sM_5 hj1 ej1 (by decide) ?_
    refine jw_goto (pc := 28) (tgt := 36) dX12_many_28 (by decide) ?_
    exact jw_iret (pc := 36) dX12_many_36 rfl ⟨_, rfl, h⟩
set_option maxRecDepth 20000 in
theorem b_X12_cell {x : jX} {d : Nat} {M : jM} {P : jM → Int32 → Prop} {a1 : Int32} {a2 : Int32} 
    (h : ∀ M1, M1 = jrI M 0 (upd (M.1 0) 1 (0 : Int32)) → ∀ M2, M2 = jrI M1 0 (upd (M1.1 0) 0 (0 : Int32)) → JC x jtbM mX12_isCell d [.ref (x.2.2.2 0), .int a1] M2 (jZ fun M3 b1 => (b1 = true → JC x jtbM mX12_isIn d [.long a2.toInt64, .long (0 : Int64), .long (2 : Int64)] M3 (jZ fun M4 b2 => (b2 = false → JC x jtbM mX12_refuse d [.ref (x.2.2.2 0), .int (5 : Int32)] M4 (jI fun M5 r1 => P M5 r1)) ∧ (b2 = true → ∃ j1, j1 < 2060 ∧ ((3 : Int32) + ((25 : Int32) * a2)) + a1 = nI j1 ∧ (P M4 (M4.1 5 j1))))) ∧ (b1 = false → JC x jtbM mX12_refuse d [.ref (x.2.2.2 0), .int (2 : Int32)] M3 (jI fun M6 r2 => P M6 r2)))) :
    JC x jtbM mX12_cell (d + 1) [.ref (x.2.2.2 0), .int a1, .int a2] M (jI P) := by
  refine JC.of rfl (Nat.le_of_ble_eq_true rfl) ?_
  refine jw_ls (ls' := [(0, .ref (x.2.2.2 0)), (1, .int a1), (2, .int a2)]) rfl ?_
  refine jw_aload_n (pc := 0) (j := 0) dX12_cell_0 rfl rfl ?_
  refine jw_iconst (pc := 1) (v := 0) dX12_cell_1 rfl ?_
  refine jw_putI (pc := 2) dX12_cell_2 sM_0 fl_X12_81 fw_12_1 (by decide) rfl ?_
  replace h := h _ rfl
  generalize jrI M 0 (upd (M.1 0) 1 (0 : Int32)) = M1 at h ⊢
  refine jw_aload_n (pc := 5) (j := 0) dX12_cell_5 rfl rfl ?_
  refine jw_iconst (pc := 6) (v := 0) dX12_cell_6 rfl ?_
  refine jw_putI (pc := 7) dX12_cell_7 sM_0 fl_X12_84 fw_12_0 (by decide) rfl ?_
  replace h := h _ rfl
  generalize jrI M1 0 (upd (M1.1 0) 0 (0 : Int32)) = M2 at h ⊢
  refine jw_aload_n (pc := 10) (j := 0) dX12_cell_10 rfl rfl ?_
  refine jw_iload_n (pc := 11) (j := 1) dX12_cell_11 rfl rfl ?_
  refine jw_callV (pc := 12) (m2 := mX12_isCell) (As := [.int a1]) (st := []) dX12_cell_12 sM_0 (by decide) rfl rfl gm_X12_isCell ml_X12_319 rfl (Nat.le_of_ble_eq_true rfl) (JC.mono h ?_)
  clear h
  rintro M3 _ ⟨b1, rfl, h⟩
  refine jw_st (st' := [.int (jb b1)]) rfl ?_
  refine jw_if_ne (pc := 15) (tgt := 24) dX12_cell_15 (by decide) (fun c => ?_) (fun c => ?_)
  · replace h := h.1 (jb_ne c)
    refine jw_iload_n (pc := 24) (j := 2) dX12_cell_24 rfl rfl ?_
    refine jw_i2l (pc := 25) dX12_cell_25 ?_
    refine jw_lconst (pc := 26) (v := 0) dX12_cell_26 rfl ?_
    refine jw_ldc2 (pc := 27) (v := 2) dX12_cell_27 kl_X12_314 ?_
    refine jw_callS (pc := 30) (m2 := mX12_isIn) (As := [.long a2.toInt64, .long (0 : Int64), .long (2 : Int64)]) (st := []) dX12_cell_30 gm_X12_isIn ml_X12_116 rfl (Nat.le_of_ble_eq_true rfl) (JC.mono h ?_)
    clear h
    rintro M4 _ ⟨b2, rfl, h⟩
    refine jw_st (st' := [.int (jb b2)]) rfl ?_
    refine jw_if_eq (pc := 33) (tgt := 52) dX12_cell_33 (by decide) (fun c => ?_) (fun c => ?_)
    · replace h := h.1 ((jb_0 _).mp c)
      refine jw_aload_n (pc := 52) (j := 0) dX12_cell_52 rfl rfl ?_
      refine jw_iconst (pc := 53) (v := 5) dX12_cell_53 rfl ?_
      refine jw_callV (pc := 54) (m2 := mX12_refuse) (As := [.int (5 : Int32)]) (st := []) dX12_cell_54 sM_0 (by decide) rfl rfl gm_X12_refuse ml_X12_316 rfl (Nat.le_of_ble_eq_true rfl) (JC.mono h ?_)
      clear h
      rintro M5 _ ⟨r1, rfl, h⟩
      refine jw_st (st' := [.int r1]) rfl ?_
      exact jw_iret (pc := 57) dX12_cell_57 rfl ⟨_, rfl, h⟩
    · replace h := h.2 (jb_ne c)
      refine jw_aload_n (pc := 36) (j := 0) dX12_cell_36 rfl rfl ?_
      refine jw_getR (pc := 37) (r := 5) dX12_cell_37 sM_0 fl_X12_35 (by decide) rfl rfl ?_
      refine jw_iconst (pc := 40) (v := 3) dX12_cell_40 rfl ?_
      refine jw_bipush (pc := 41) (v := 25) dX12_cell_41 rfl ?_
      refine jw_iload_n (pc := 43) (j := 2) dX12_cell_43 rfl rfl ?_
      refine jw_imul (pc := 44) dX12_cell_44 ?_
      refine jw_iadd (pc := 45) dX12_cell_45 ?_
      refine jw_iload_n (pc := 46) (j := 1) dX12_cell_46 rfl rfl ?_
      refine jw_iadd (pc := 47) dX12_cell_47 ?_
      obtain ⟨j1, hj1, ej1, h⟩ := h
      refine jw_iald (pc := 48) (j := j1) dX12_cell_48 sM_5 hj1 ej1 (by decide) ?_
      refine jw_goto (pc := 49) (tgt := 57) dX12_cell_49 (by decide) ?_
      exact jw_iret (pc := 57) dX12_cell_57 rfl ⟨_, rfl, h⟩
  · replace h := h.2 ((jb_0 _).mp c)
    refine jw_aload_n (pc := 18) (j := 0) dX12_cell_18 rfl rfl ?_
    refine jw_iconst (pc := 19) (v := 2) dX12_cell_19 rfl ?_
    refine jw_callV (pc := 20) (m2 := mX12_refuse) (As := [.int (2 : Int32)]) (st := []) dX12_cell_20 sM_0 (by decide) rfl rfl gm_X12_refuse ml_X12_316 rfl (Nat.le_of_ble_eq_true rfl) (JC.mono h ?_)
    clear h
    rintro M6 _ ⟨r2, rfl, h⟩
    refine jw_st (st' := [.int r2]) rfl ?_
    exact jw_iret (pc := 23) dX12_cell_23 rfl ⟨_, rfl, h⟩
set_option maxRecDepth 20000 in
theorem b_X12_village {x : jX} {d : Nat} {M : jM} {P : jM → Int32 → Prop} {a1 : Int32} {a2 : Int32} 
    (h : ∀ M1, M1 = jrI M 0 (upd (M.1 0) 1 (0 : Int32)) → ∀ M2, M2 = jrI M1 0 (upd (M1.1 0) 0 (0 : Int32)) → JC x jtbM mX12_isVillage d [.ref (x.2.2.2 0), .int a1] M2 (jZ fun M3 b1 => (b1 = true → JC x jtbM mX12_isIn d [.long a2.toInt64, .long (0 : Int64), .long (2 : Int64)] M3 (jZ fun M4 b2 => (b2 = true → (¬ a2 = 0 → (¬ a2 = (1 : Int32) → ∃ j1, j1 < 2060 ∧ (84 : Int32) + a1 = nI j1 ∧ (P M4 (M4.1 5 j1))) ∧ (a2 = (1 : Int32) → JC x jtbM mX12_strips d [.ref (x.2.2.2 0), .int a1] M4 (jI fun M5 r1 => P M5 r1))) ∧ (a2 = 0 → ∃ j2, j2 < 2060 ∧ (78 : Int32) + a1 = nI j2 ∧ (P M4 (M4.1 5 j2)))) ∧ (b2 = false → JC x jtbM mX12_refuse d [.ref (x.2.2.2 0), .int (5 : Int32)] M4 (jI fun M6 r2 => P M6 r2)))) ∧ (b1 = false → JC x jtbM mX12_refuse d [.ref (x.2.2.2 0), .int (2 : Int32)] M3 (jI fun M7 r3 => P M7 r3)))) :
    JC x jtbM mX12_village (d + 1) [.ref (x.2.2.2 0), .int a1, .int a2] M (jI P) := by
  refine JC.of rfl (Nat.le_of_ble_eq_true rfl) ?_
  refine jw_ls (ls' := [(0, .ref (x.2.2.2 0)), (1, .int a1), (2, .int a2)]) rfl ?_
  refine jw_aload_n (pc := 0) (j := 0) dX12_village_0 rfl rfl ?_
  refine jw_iconst (pc := 1) (v := 0) dX12_village_1 rfl ?_
  refine jw_putI (pc := 2) dX12_village_2 sM_0 fl_X12_81 fw_12_1 (by decide) rfl ?_
  replace h := h _ rfl
  generalize jrI M 0 (upd (M.1 0) 1 (0 : Int32)) = M1 at h ⊢
  refine jw_aload_n (pc := 5) (j := 0) dX12_village_5 rfl rfl ?_
  refine jw_iconst (pc := 6) (v := 0) dX12_village_6 rfl ?_
  refine jw_putI (pc := 7) dX12_village_7 sM_0 fl_X12_84 fw_12_0 (by decide) rfl ?_
  replace h := h _ rfl
  generalize jrI M1 0 (upd (M1.1 0) 0 (0 : Int32)) = M2 at h ⊢
  refine jw_aload_n (pc := 10) (j := 0) dX12_village_10 rfl rfl ?_
  refine jw_iload_n (pc := 11) (j := 1) dX12_village_11 rfl rfl ?_
  refine jw_callV (pc := 12) (m2 := mX12_isVillage) (As := [.int a1]) (st := []) dX12_village_12 sM_0 (by decide) rfl rfl gm_X12_isVillage ml_X12_308 rfl (Nat.le_of_ble_eq_true rfl) (JC.mono h ?_)
  clear h
  rintro M3 _ ⟨b1, rfl, h⟩
  refine jw_st (st' := [.int (jb b1)]) rfl ?_
  refine jw_if_ne (pc := 15) (tgt := 24) dX12_village_15 (by decide) (fun c => ?_) (fun c => ?_)
  · replace h := h.1 (jb_ne c)
    refine jw_iload_n (pc := 24) (j := 2) dX12_village_24 rfl rfl ?_
    refine jw_i2l (pc := 25) dX12_village_25 ?_
    refine jw_lconst (pc := 26) (v := 0) dX12_village_26 rfl ?_
    refine jw_ldc2 (pc := 27) (v := 2) dX12_village_27 kl_X12_314 ?_
    refine jw_callS (pc := 30) (m2 := mX12_isIn) (As := [.long a2.toInt64, .long (0 : Int64), .long (2 : Int64)]) (st := []) dX12_village_30 gm_X12_isIn ml_X12_116 rfl (Nat.le_of_ble_eq_true rfl) (JC.mono h ?_)
    clear h
    rintro M4 _ ⟨b2, rfl, h⟩
    refine jw_st (st' := [.int (jb b2)]) rfl ?_
    refine jw_if_ne (pc := 33) (tgt := 42) dX12_village_33 (by decide) (fun c => ?_) (fun c => ?_)
    · replace h := h.1 (jb_ne c)
      refine jw_iload_n (pc := 42) (j := 2) dX12_village_42 rfl rfl ?_
      refine jw_if_ne (pc := 43) (tgt := 58) dX12_village_43 (by decide) (fun c => ?_) (fun c => ?_)
      · replace h := h.1 c
        refine jw_iload_n (pc := 58) (j := 2) dX12_village_58 rfl rfl ?_
        refine jw_iconst (pc := 59) (v := 1) dX12_village_59 rfl ?_
        refine jw_icmp_ne (pc := 60) (tgt := 71) dX12_village_60 (by decide) (fun c => ?_) (fun c => ?_)
        · replace h := h.1 c
          refine jw_aload_n (pc := 71) (j := 0) dX12_village_71 rfl rfl ?_
          refine jw_getR (pc := 72) (r := 5) dX12_village_72 sM_0 fl_X12_35 (by decide) rfl rfl ?_
          refine jw_bipush (pc := 75) (v := 84) dX12_village_75 rfl ?_
          refine jw_iload_n (pc := 77) (j := 1) dX12_village_77 rfl rfl ?_
          refine jw_iadd (pc := 78) dX12_village_78 ?_
          obtain ⟨j1, hj1, ej1, h⟩ := h
          refine jw_iald (pc := 79) (j := j1) dX12_village_79 sM_5 hj1 ej1 (by decide) ?_
          exact jw_iret (pc := 80) dX12_village_80 rfl ⟨_, rfl, h⟩
        · replace h := h.2 c
          refine jw_aload_n (pc := 63) (j := 0) dX12_village_63 rfl rfl ?_
          refine jw_iload_n (pc := 64) (j := 1) dX12_village_64 rfl rfl ?_
          refine jw_callV (pc := 65) (m2 := mX12_strips) (As := [.int a1]) (st := []) dX12_village_65 sM_0 (by decide) rfl rfl gm_X12_strips ml_X12_311 rfl (Nat.le_of_ble_eq_true rfl) (JC.mono h ?_)
          clear h
          rintro M5 _ ⟨r1, rfl, h⟩
          refine jw_st (st' := [.int r1]) rfl ?_
          refine jw_goto (pc := 68) (tgt := 80) dX12_village_68 (by decide) ?_
          exact jw_iret (pc := 80) dX12_village_80 rfl ⟨_, rfl, h⟩
      · replace h := h.2 c
        refine jw_aload_n (pc := 46) (j := 0) dX12_village_46 rfl rfl ?_
        refine jw_getR (pc := 47) (r := 5) dX12_village_47 sM_0 fl_X12_35 (by decide) rfl rfl ?_
        refine jw_bipush (pc := 50) (v := 78) dX12_village_50 rfl ?_
        refine jw_iload_n (pc := 52) (j := 1) dX12_village_52 rfl rfl ?_
        refine jw_iadd (pc := 53) dX12_village_53 ?_
        obtain ⟨j2, hj2, ej2, h⟩ := h
        refine jw_iald (pc := 54) (j := j2) dX12_village_54 sM_5 hj2 ej2 (by decide) ?_
        refine jw_goto (pc := 55) (tgt := 80) dX12_village_55 (by decide) ?_
        exact jw_iret (pc := 80) dX12_village_80 rfl ⟨_, rfl, h⟩
    · replace h := h.2 ((jb_0 _).mp c)
      refine jw_aload_n (pc := 36) (j := 0) dX12_village_36 rfl rfl ?_
      refine jw_iconst (pc := 37) (v := 5) dX12_village_37 rfl ?_
      refine jw_callV (pc := 38) (m2 := mX12_refuse) (As := [.int (5 : Int32)]) (st := []) dX12_village_38 sM_0 (by decide) rfl rfl gm_X12_refuse ml_X12_316 rfl (Nat.le_of_ble_eq_true rfl) (JC.mono h ?_)
      clear h
      rintro M6 _ ⟨r2, rfl, h⟩
      refine jw_st (st' := [.int r2]) rfl ?_
      exact jw_iret (pc := 41) dX12_village_41 rfl ⟨_, rfl, h⟩
  · replace h := h.2 ((jb_0 _).mp c)
    refine jw_aload_n (pc := 18) (j := 0) dX12_village_18 rfl rfl ?_
    refine jw_iconst (pc := 19) (v := 2) dX12_village_19 rfl ?_
    refine jw_callV (pc := 20) (m2 := mX12_refuse) (As := [.int (2 : Int32)]) (st := []) dX12_village_20 sM_0 (by decide) rfl rfl gm_X12_refuse ml_X12_316 rfl (Nat.le_of_ble_eq_true rfl) (JC.mono h ?_)
    clear h
    rintro M7 _ ⟨r3, rfl, h⟩
    refine jw_st (st' := [.int r3]) rfl ?_
    exact jw_iret (pc := 23) dX12_village_23 rfl ⟨_, rfl, h⟩
set_option maxRecDepth 20000 in
theorem b_X12_promised {x : jX} {d : Nat} {M : jM} {P : jM → Int32 → Prop} {a1 : Int32} {a2 : Int32} 
    (h : ∀ M1, M1 = jrI M 0 (upd (M.1 0) 1 (0 : Int32)) → ∀ M2, M2 = jrI M1 0 (upd (M1.1 0) 0 (0 : Int32)) → JC x jtbM mX12_isStrip d [.ref (x.2.2.2 0), .int a1, .int a2] M2 (jZ fun M3 b1 => (b1 = true → ∃ j1, j1 < 2060 ∧ (84 : Int32) + a1 = nI j1 ∧ ((¬ (M3.1 5 j1) = 0 → ∃ j2, j2 < 2060 ∧ ((90 : Int32) + ((9 : Int32) * a1)) + a2 = nI j2 ∧ (P M3 (M3.1 5 j2))) ∧ ((M3.1 5 j1) = 0 → JC x jtbM mX12_refuse d [.ref (x.2.2.2 0), .int (8 : Int32)] M3 (jI fun M4 r1 => P M4 r1)))) ∧ (b1 = false → JC x jtbM mX12_refuse d [.ref (x.2.2.2 0), .int (2 : Int32)] M3 (jI fun M5 r2 => P M5 r2)))) :
    JC x jtbM mX12_promised (d + 1) [.ref (x.2.2.2 0), .int a1, .int a2] M (jI P) := by
  refine JC.of rfl (Nat.le_of_ble_eq_true rfl) ?_
  refine jw_ls (ls' := [(0, .ref (x.2.2.2 0)), (1, .int a1), (2, .int a2)]) rfl ?_
  refine jw_aload_n (pc := 0) (j := 0) dX12_promised_0 rfl rfl ?_
  refine jw_iconst (pc := 1) (v := 0) dX12_promised_1 rfl ?_
  refine jw_putI (pc := 2) dX12_promised_2 sM_0 fl_X12_81 fw_12_1 (by decide) rfl ?_
  replace h := h _ rfl
  generalize jrI M 0 (upd (M.1 0) 1 (0 : Int32)) = M1 at h ⊢
  refine jw_aload_n (pc := 5) (j := 0) dX12_promised_5 rfl rfl ?_
  refine jw_iconst (pc := 6) (v := 0) dX12_promised_6 rfl ?_
  refine jw_putI (pc := 7) dX12_promised_7 sM_0 fl_X12_84 fw_12_0 (by decide) rfl ?_
  replace h := h _ rfl
  generalize jrI M1 0 (upd (M1.1 0) 0 (0 : Int32)) = M2 at h ⊢
  refine jw_aload_n (pc := 10) (j := 0) dX12_promised_10 rfl rfl ?_
  refine jw_iload_n (pc := 11) (j := 1) dX12_promised_11 rfl rfl ?_
  refine jw_iload_n (pc := 12) (j := 2) dX12_promised_12 rfl rfl ?_
  refine jw_callV (pc := 13) (m2 := mX12_isStrip) (As := [.int a1, .int a2]) (st := []) dX12_promised_13 sM_0 (by decide) rfl rfl gm_X12_isStrip ml_X12_322 rfl (Nat.le_of_ble_eq_true rfl) (JC.mono h ?_)
  clear h
  rintro M3 _ ⟨b1, rfl, h⟩
  refine jw_st (st' := [.int (jb b1)]) rfl ?_
  refine jw_if_ne (pc := 16) (tgt := 25) dX12_promised_16 (by decide) (fun c => ?_) (fun c => ?_)
  · replace h := h.1 (jb_ne c)
    refine jw_aload_n (pc := 25) (j := 0) dX12_promised_25 rfl rfl ?_
    refine jw_getR (pc := 26) (r := 5) dX12_promised_26 sM_0 fl_X12_35 (by decide) rfl rfl ?_
    refine jw_bipush (pc := 29) (v := 84) dX12_promised_29 rfl ?_
    refine jw_iload_n (pc := 31) (j := 1) dX12_promised_31 rfl rfl ?_
    refine jw_iadd (pc := 32) dX12_promised_32 ?_
    obtain ⟨j1, hj1, ej1, h⟩ := h
    refine jw_iald (pc := 33) (j := j1) dX12_promised_33 sM_5 hj1 ej1 (by decide) ?_
    refine jw_if_ne (pc := 34) (tgt := 46) dX12_promised_34 (by decide) (fun c => ?_) (fun c => ?_)
    · replace h := h.1 c
      refine jw_aload_n (pc := 46) (j := 0) dX12_promised_46 rfl rfl ?_
      refine jw_getR (pc := 47) (r := 5) dX12_promised_47 sM_0 fl_X12_35 (by decide) rfl rfl ?_
      refine jw_bipush (pc := 50) (v := 90) dX12_promised_50 rfl ?_
      refine jw_bipush (pc := 52) (v := 9) dX12_promised_52 rfl ?_
      refine jw_iload_n (pc := 54) (j := 1) dX12_promised_54 rfl rfl ?_
      refine jw_imul (pc := 55) dX12_promised_55 ?_
      refine jw_iadd (pc := 56) dX12_promised_56 ?_
      refine jw_iload_n (pc := 57) (j := 2) dX12_promised_57 rfl rfl ?_
      refine jw_iadd (pc := 58) dX12_promised_58 ?_
      obtain ⟨j2, hj2, ej2, h⟩ := h
      refine jw_iald (pc := 59) (j := j2) dX12_promised_59 sM_5 hj2 ej2 (by decide) ?_
      exact jw_iret (pc := 60) dX12_promised_60 rfl ⟨_, rfl, h⟩
    · replace h := h.2 c
      refine jw_aload_n (pc := 37) (j := 0) dX12_promised_37 rfl rfl ?_
      refine jw_bipush (pc := 38) (v := 8) dX12_promised_38 rfl ?_
      refine jw_callV (pc := 40) (m2 := mX12_refuse) (As := [.int (8 : Int32)]) (st := []) dX12_promised_40 sM_0 (by decide) rfl rfl gm_X12_refuse ml_X12_316 rfl (Nat.le_of_ble_eq_true rfl) (JC.mono h ?_)
      clear h
      rintro M4 _ ⟨r1, rfl, h⟩
      refine jw_st (st' := [.int r1]) rfl ?_
      refine jw_goto (pc := 43) (tgt := 60) dX12_promised_43 (by decide) ?_
      exact jw_iret (pc := 60) dX12_promised_60 rfl ⟨_, rfl, h⟩
  · replace h := h.2 ((jb_0 _).mp c)
    refine jw_aload_n (pc := 19) (j := 0) dX12_promised_19 rfl rfl ?_
    refine jw_iconst (pc := 20) (v := 2) dX12_promised_20 rfl ?_
    refine jw_callV (pc := 21) (m2 := mX12_refuse) (As := [.int (2 : Int32)]) (st := []) dX12_promised_21 sM_0 (by decide) rfl rfl gm_X12_refuse ml_X12_316 rfl (Nat.le_of_ble_eq_true rfl) (JC.mono h ?_)
    clear h
    rintro M5 _ ⟨r2, rfl, h⟩
    refine jw_st (st' := [.int r2]) rfl ?_
    exact jw_iret (pc := 24) dX12_promised_24 rfl ⟨_, rfl, h⟩
set_option maxRecDepth 20000 in
theorem b_X12_strip {x : jX} {d : Nat} {M : jM} {P : jM → Int32 → Prop} {a1 : Int32} {a2 : Int32} 
    (h : ∀ M1, M1 = jrI M 0 (upd (M.1 0) 1 (0 : Int32)) → ∀ M2, M2 = jrI M1 0 (upd (M1.1 0) 0 (0 : Int32)) → JC x jtbM mX12_isIn d [.long a1.toInt64, .long (0 : Int64), .long (7 : Int64)] M2 (jZ fun M3 b1 => (b1 = false → JC x jtbM mX12_refuse d [.ref (x.2.2.2 0), .int (2 : Int32)] M3 (jI fun M4 r1 => P M4 r1)) ∧ (b1 = true → JC x jtbM mX12_isCell d [.ref (x.2.2.2 0), .int a2] M3 (jZ fun M5 b2 => (b2 = false → JC x jtbM mX12_refuse d [.ref (x.2.2.2 0), .int (2 : Int32)] M5 (jI fun M6 r2 => P M6 r2)) ∧ (b2 = true → JC x jtbM mX12_stripOf d [.ref (x.2.2.2 0), .int a1, .int a2] M5 (jI fun M7 r3 => P M7 r3)))))) :
    JC x jtbM mX12_strip (d + 1) [.ref (x.2.2.2 0), .int a1, .int a2] M (jI P) := by
  refine JC.of rfl (Nat.le_of_ble_eq_true rfl) ?_
  refine jw_ls (ls' := [(0, .ref (x.2.2.2 0)), (1, .int a1), (2, .int a2)]) rfl ?_
  refine jw_aload_n (pc := 0) (j := 0) dX12_strip_0 rfl rfl ?_
  refine jw_iconst (pc := 1) (v := 0) dX12_strip_1 rfl ?_
  refine jw_putI (pc := 2) dX12_strip_2 sM_0 fl_X12_81 fw_12_1 (by decide) rfl ?_
  replace h := h _ rfl
  generalize jrI M 0 (upd (M.1 0) 1 (0 : Int32)) = M1 at h ⊢
  refine jw_aload_n (pc := 5) (j := 0) dX12_strip_5 rfl rfl ?_
  refine jw_iconst (pc := 6) (v := 0) dX12_strip_6 rfl ?_
  refine jw_putI (pc := 7) dX12_strip_7 sM_0 fl_X12_84 fw_12_0 (by decide) rfl ?_
  replace h := h _ rfl
  generalize jrI M1 0 (upd (M1.1 0) 0 (0 : Int32)) = M2 at h ⊢
  refine jw_iload_n (pc := 10) (j := 1) dX12_strip_10 rfl rfl ?_
  refine jw_i2l (pc := 11) dX12_strip_11 ?_
  refine jw_lconst (pc := 12) (v := 0) dX12_strip_12 rfl ?_
  refine jw_ldc2 (pc := 13) (v := 7) dX12_strip_13 kl_X12_325 ?_
  refine jw_callS (pc := 16) (m2 := mX12_isIn) (As := [.long a1.toInt64, .long (0 : Int64), .long (7 : Int64)]) (st := []) dX12_strip_16 gm_X12_isIn ml_X12_116 rfl (Nat.le_of_ble_eq_true rfl) (JC.mono h ?_)
  clear h
  rintro M3 _ ⟨b1, rfl, h⟩
  refine jw_st (st' := [.int (jb b1)]) rfl ?_
  refine jw_if_eq (pc := 19) (tgt := 39) dX12_strip_19 (by decide) (fun c => ?_) (fun c => ?_)
  · replace h := h.1 ((jb_0 _).mp c)
    refine jw_aload_n (pc := 39) (j := 0) dX12_strip_39 rfl rfl ?_
    refine jw_iconst (pc := 40) (v := 2) dX12_strip_40 rfl ?_
    refine jw_callV (pc := 41) (m2 := mX12_refuse) (As := [.int (2 : Int32)]) (st := []) dX12_strip_41 sM_0 (by decide) rfl rfl gm_X12_refuse ml_X12_316 rfl (Nat.le_of_ble_eq_true rfl) (JC.mono h ?_)
    clear h
    rintro M4 _ ⟨r1, rfl, h⟩
    refine jw_st (st' := [.int r1]) rfl ?_
    exact jw_iret (pc := 44) dX12_strip_44 rfl ⟨_, rfl, h⟩
  · replace h := h.2 (jb_ne c)
    refine jw_aload_n (pc := 22) (j := 0) dX12_strip_22 rfl rfl ?_
    refine jw_iload_n (pc := 23) (j := 2) dX12_strip_23 rfl rfl ?_
    refine jw_callV (pc := 24) (m2 := mX12_isCell) (As := [.int a2]) (st := []) dX12_strip_24 sM_0 (by decide) rfl rfl gm_X12_isCell ml_X12_319 rfl (Nat.le_of_ble_eq_true rfl) (JC.mono h ?_)
    clear h
    rintro M5 _ ⟨b2, rfl, h⟩
    refine jw_st (st' := [.int (jb b2)]) rfl ?_
    refine jw_if_eq (pc := 27) (tgt := 39) dX12_strip_27 (by decide) (fun c => ?_) (fun c => ?_)
    · replace h := h.1 ((jb_0 _).mp c)
      refine jw_aload_n (pc := 39) (j := 0) dX12_strip_39 rfl rfl ?_
      refine jw_iconst (pc := 40) (v := 2) dX12_strip_40 rfl ?_
      refine jw_callV (pc := 41) (m2 := mX12_refuse) (As := [.int (2 : Int32)]) (st := []) dX12_strip_41 sM_0 (by decide) rfl rfl gm_X12_refuse ml_X12_316 rfl (Nat.le_of_ble_eq_true rfl) (JC.mono h ?_)
      clear h
      rintro M6 _ ⟨r2, rfl, h⟩
      refine jw_st (st' := [.int r2]) rfl ?_
      exact jw_iret (pc := 44) dX12_strip_44 rfl ⟨_, rfl, h⟩
    · replace h := h.2 (jb_ne c)
      refine jw_aload_n (pc := 30) (j := 0) dX12_strip_30 rfl rfl ?_
      refine jw_iload_n (pc := 31) (j := 1) dX12_strip_31 rfl rfl ?_
      refine jw_iload_n (pc := 32) (j := 2) dX12_strip_32 rfl rfl ?_
      refine jw_callV (pc := 33) (m2 := mX12_stripOf) (As := [.int a1, .int a2]) (st := []) dX12_strip_33 sM_0 (by decide) rfl rfl gm_X12_stripOf ml_X12_327 rfl (Nat.le_of_ble_eq_true rfl) (JC.mono h ?_)
      clear h
      rintro M7 _ ⟨r3, rfl, h⟩
      refine jw_st (st' := [.int r3]) rfl ?_
      refine jw_goto (pc := 36) (tgt := 44) dX12_strip_36 (by decide) ?_
      exact jw_iret (pc := 44) dX12_strip_44 rfl ⟨_, rfl, h⟩
set_option maxRecDepth 20000 in
theorem b_X12_height {x : jX} {d : Nat} {M : jM} {P : jM → Int32 → Prop} {a1 : Int32} 
    (h : ∀ M1, M1 = jrI M 0 (upd (M.1 0) 1 (0 : Int32)) → ∀ M2, M2 = jrI M1 0 (upd (M1.1 0) 0 (0 : Int32)) → JC x jtbM mX12_isCell d [.ref (x.2.2.2 0), .int a1] M2 (jZ fun M3 b1 => (b1 = false → JC x jtbM mX12_refuse d [.ref (x.2.2.2 0), .int (2 : Int32)] M3 (jI fun M4 r1 => P M4 r1)) ∧ (b1 = true → ∃ j1, j1 < 2060 ∧ (144 : Int32) + a1 = nI j1 ∧ (P M3 (M3.1 5 j1))))) :
    JC x jtbM mX12_height (d + 1) [.ref (x.2.2.2 0), .int a1] M (jI P) := by
  refine JC.of rfl (Nat.le_of_ble_eq_true rfl) ?_
  refine jw_ls (ls' := [(0, .ref (x.2.2.2 0)), (1, .int a1)]) rfl ?_
  refine jw_aload_n (pc := 0) (j := 0) dX12_height_0 rfl rfl ?_
  refine jw_iconst (pc := 1) (v := 0) dX12_height_1 rfl ?_
  refine jw_putI (pc := 2) dX12_height_2 sM_0 fl_X12_81 fw_12_1 (by decide) rfl ?_
  replace h := h _ rfl
  generalize jrI M 0 (upd (M.1 0) 1 (0 : Int32)) = M1 at h ⊢
  refine jw_aload_n (pc := 5) (j := 0) dX12_height_5 rfl rfl ?_
  refine jw_iconst (pc := 6) (v := 0) dX12_height_6 rfl ?_
  refine jw_putI (pc := 7) dX12_height_7 sM_0 fl_X12_84 fw_12_0 (by decide) rfl ?_
  replace h := h _ rfl
  generalize jrI M1 0 (upd (M1.1 0) 0 (0 : Int32)) = M2 at h ⊢
  refine jw_aload_n (pc := 10) (j := 0) dX12_height_10 rfl rfl ?_
  refine jw_iload_n (pc := 11) (j := 1) dX12_height_11 rfl rfl ?_
  refine jw_callV (pc := 12) (m2 := mX12_isCell) (As := [.int a1]) (st := []) dX12_height_12 sM_0 (by decide) rfl rfl gm_X12_isCell ml_X12_319 rfl (Nat.le_of_ble_eq_true rfl) (JC.mono h ?_)
  clear h
  rintro M3 _ ⟨b1, rfl, h⟩
  refine jw_st (st' := [.int (jb b1)]) rfl ?_
  refine jw_if_eq (pc := 15) (tgt := 31) dX12_height_15 (by decide) (fun c => ?_) (fun c => ?_)
  · replace h := h.1 ((jb_0 _).mp c)
    refine jw_aload_n (pc := 31) (j := 0) dX12_height_31 rfl rfl ?_
    refine jw_iconst (pc := 32) (v := 2) dX12_height_32 rfl ?_
    refine jw_callV (pc := 33) (m2 := mX12_refuse) (As := [.int (2 : Int32)]) (st := []) dX12_height_33 sM_0 (by decide) rfl rfl gm_X12_refuse ml_X12_316 rfl (Nat.le_of_ble_eq_true rfl) (JC.mono h ?_)
    clear h
    rintro M4 _ ⟨r1, rfl, h⟩
    refine jw_st (st' := [.int r1]) rfl ?_
    exact jw_iret (pc := 36) dX12_height_36 rfl ⟨_, rfl, h⟩
  · replace h := h.2 (jb_ne c)
    refine jw_aload_n (pc := 18) (j := 0) dX12_height_18 rfl rfl ?_
    refine jw_getR (pc := 19) (r := 5) dX12_height_19 sM_0 fl_X12_35 (by decide) rfl rfl ?_
    refine jw_sipush (pc := 22) (v := 144) dX12_height_22 rfl ?_
    refine jw_iload_n (pc := 25) (j := 1) dX12_height_25 rfl rfl ?_
    refine jw_iadd (pc := 26) dX12_height_26 ?_
    obtain ⟨j1, hj1, ej1, h⟩ := h
    refine jw_iald (pc := 27) (j := j1) dX12_height_27 sM_5 hj1 ej1 (by decide) ?_
    refine jw_goto (pc := 28) (tgt := 36) dX12_height_28 (by decide) ?_
    exact jw_iret (pc := 36) dX12_height_36 rfl ⟨_, rfl, h⟩
set_option maxRecDepth 20000 in
theorem b_X12_build {x : jX} {d : Nat} {M : jM} {P : jM → Bool → Prop} {a1 : Int32} {a2 : Int32} 
    (h : ∀ M1, M1 = jrI M 0 (upd (M.1 0) 1 (0 : Int32)) → ∀ M2, M2 = jrI M1 0 (upd (M1.1 0) 0 (0 : Int32)) → JC x jtbM mX12_isCell d [.ref (x.2.2.2 0), .int a1] M2 (jZ fun M3 b1 => (b1 = true → JC x jtbM mX12_isIn d [.long a2.toInt64, .long (0 : Int64), .long (99 : Int64)] M3 (jZ fun M4 b2 => (b2 = true → ∃ j1, j1 < 2060 ∧ (144 : Int32) + a1 = nI j1 ∧ (∀ M5, M5 = jrI M4 5 (upd (M4.1 5) j1 a2) → P M5 true)) ∧ (b2 = false → JC x jtbM mX12_no d [.ref (x.2.2.2 0), .int (5 : Int32)] M4 (jZ fun M6 b3 => P M6 b3)))) ∧ (b1 = false → JC x jtbM mX12_no d [.ref (x.2.2.2 0), .int (2 : Int32)] M3 (jZ fun M7 b4 => P M7 b4)))) :
    JC x jtbM mX12_build (d + 1) [.ref (x.2.2.2 0), .int a1, .int a2] M (jZ P) := by
  refine JC.of rfl (Nat.le_of_ble_eq_true rfl) ?_
  refine jw_ls (ls' := [(0, .ref (x.2.2.2 0)), (1, .int a1), (2, .int a2)]) rfl ?_
  refine jw_aload_n (pc := 0) (j := 0) dX12_build_0 rfl rfl ?_
  refine jw_iconst (pc := 1) (v := 0) dX12_build_1 rfl ?_
  refine jw_putI (pc := 2) dX12_build_2 sM_0 fl_X12_81 fw_12_1 (by decide) rfl ?_
  replace h := h _ rfl
  generalize jrI M 0 (upd (M.1 0) 1 (0 : Int32)) = M1 at h ⊢
  refine jw_aload_n (pc := 5) (j := 0) dX12_build_5 rfl rfl ?_
  refine jw_iconst (pc := 6) (v := 0) dX12_build_6 rfl ?_
  refine jw_putI (pc := 7) dX12_build_7 sM_0 fl_X12_84 fw_12_0 (by decide) rfl ?_
  replace h := h _ rfl
  generalize jrI M1 0 (upd (M1.1 0) 0 (0 : Int32)) = M2 at h ⊢
  refine jw_aload_n (pc := 10) (j := 0) dX12_build_10 rfl rfl ?_
  refine jw_iload_n (pc := 11) (j := 1) dX12_build_11 rfl rfl ?_
  refine jw_callV (pc := 12) (m2 := mX12_isCell) (As := [.int a1]) (st := []) dX12_build_12 sM_0 (by decide) rfl rfl gm_X12_isCell ml_X12_319 rfl (Nat.le_of_ble_eq_true rfl) (JC.mono h ?_)
  clear h
  rintro M3 _ ⟨b1, rfl, h⟩
  refine jw_st (st' := [.int (jb b1)]) rfl ?_
  refine jw_if_ne (pc := 15) (tgt := 24) dX12_build_15 (by decide) (fun c => ?_) (fun c => ?_)
  · replace h := h.1 (jb_ne c)
    refine jw_iload_n (pc := 24) (j := 2) dX12_build_24 rfl rfl ?_
    refine jw_i2l (pc := 25) dX12_build_25 ?_
    refine jw_lconst (pc := 26) (v := 0) dX12_build_26 rfl ?_
    refine jw_ldc2 (pc := 27) (v := 99) dX12_build_27 kl_X12_330 ?_
    refine jw_callS (pc := 30) (m2 := mX12_isIn) (As := [.long a2.toInt64, .long (0 : Int64), .long (99 : Int64)]) (st := []) dX12_build_30 gm_X12_isIn ml_X12_116 rfl (Nat.le_of_ble_eq_true rfl) (JC.mono h ?_)
    clear h
    rintro M4 _ ⟨b2, rfl, h⟩
    refine jw_st (st' := [.int (jb b2)]) rfl ?_
    refine jw_if_ne (pc := 33) (tgt := 42) dX12_build_33 (by decide) (fun c => ?_) (fun c => ?_)
    · replace h := h.1 (jb_ne c)
      refine jw_aload_n (pc := 42) (j := 0) dX12_build_42 rfl rfl ?_
      refine jw_getR (pc := 43) (r := 5) dX12_build_43 sM_0 fl_X12_35 (by decide) rfl rfl ?_
      refine jw_sipush (pc := 46) (v := 144) dX12_build_46 rfl ?_
      refine jw_iload_n (pc := 49) (j := 1) dX12_build_49 rfl rfl ?_
      refine jw_iadd (pc := 50) dX12_build_50 ?_
      refine jw_iload_n (pc := 51) (j := 2) dX12_build_51 rfl rfl ?_
      obtain ⟨j1, hj1, ej1, h⟩ := h
      refine jw_iast (pc := 52) (j := j1) dX12_build_52 sM_5 hj1 ej1 (by decide) ?_
      replace h := h _ rfl
      generalize jrI M4 5 (upd (M4.1 5) j1 a2) = M5 at h ⊢
      refine jw_iconst (pc := 53) (v := 1) dX12_build_53 rfl ?_
      exact jw_zret (pc := 54) dX12_build_54 rfl (Or.inr rfl) ⟨true, rfl, h⟩
    · replace h := h.2 ((jb_0 _).mp c)
      refine jw_aload_n (pc := 36) (j := 0) dX12_build_36 rfl rfl ?_
      refine jw_iconst (pc := 37) (v := 5) dX12_build_37 rfl ?_
      refine jw_callV (pc := 38) (m2 := mX12_no) (As := [.int (5 : Int32)]) (st := []) dX12_build_38 sM_0 (by decide) rfl rfl gm_X12_no ml_X12_96 rfl (Nat.le_of_ble_eq_true rfl) (JC.mono h ?_)
      clear h
      rintro M6 _ ⟨b3, rfl, h⟩
      refine jw_st (st' := [.int (jb b3)]) rfl ?_
      exact jw_zret (pc := 41) dX12_build_41 rfl (jb_01 _) ⟨_, rfl, h⟩
  · replace h := h.2 ((jb_0 _).mp c)
    refine jw_aload_n (pc := 18) (j := 0) dX12_build_18 rfl rfl ?_
    refine jw_iconst (pc := 19) (v := 2) dX12_build_19 rfl ?_
    refine jw_callV (pc := 20) (m2 := mX12_no) (As := [.int (2 : Int32)]) (st := []) dX12_build_20 sM_0 (by decide) rfl rfl gm_X12_no ml_X12_96 rfl (Nat.le_of_ble_eq_true rfl) (JC.mono h ?_)
    clear h
    rintro M7 _ ⟨b4, rfl, h⟩
    refine jw_st (st' := [.int (jb b4)]) rfl ?_
    exact jw_zret (pc := 23) dX12_build_23 rfl (jb_01 _) ⟨_, rfl, h⟩
set_option maxRecDepth 20000 in
theorem b_X12_wrongRow {x : jX} {d : Nat} {M : jM} {P : jM → Int32 → Prop} {a1 : Int32} {a2 : Int32} 
    (h : ∃ j1, j1 < 4 ∧ a1 = nI j1 ∧ ((a2 ≤ (M.1 2 j1) → JW x jtbM mX12_wrongRow (d + 1) (jI P) 14 [(0, .ref (x.2.2.2 0)), (1, .int a1), (2, .int a2), (3, .int (0 : Int32))] [] M) ∧ (¬ a2 ≤ (M.1 2 j1) → P M (4 : Int32)))) :
    JC x jtbM mX12_wrongRow (d + 1) [.ref (x.2.2.2 0), .int a1, .int a2] M (jI P) := by
  refine JC.of rfl (Nat.le_of_ble_eq_true rfl) ?_
  refine jw_ls (ls' := [(0, .ref (x.2.2.2 0)), (1, .int a1), (2, .int a2)]) rfl ?_
  refine jw_aload_n (pc := 0) (j := 0) dX12_wrongRow_0 rfl rfl ?_
  refine jw_getR (pc := 1) (r := 2) dX12_wrongRow_1 sM_0 fl_X12_17 (by decide) rfl rfl ?_
  refine jw_iload_n (pc := 4) (j := 1) dX12_wrongRow_4 rfl rfl ?_
  obtain ⟨j1, hj1, ej1, h⟩ := h
  refine jw_iald (pc := 5) (j := j1) dX12_wrongRow_5 sM_2 hj1 ej1 (by decide) ?_
  refine jw_iload_n (pc := 6) (j := 2) dX12_wrongRow_6 rfl rfl ?_
  refine jw_icmp_ge (pc := 7) (tgt := 12) dX12_wrongRow_7 (by decide) (fun c => ?_) (fun c => ?_)
  · replace h := h.1 c
    refine jw_iconst (pc := 12) (v := 0) dX12_wrongRow_12 rfl ?_
    refine jw_istore_n (pc := 13) (ls' := [(3, .int (0 : Int32)), (0, .ref (x.2.2.2 0)), (1, .int a1), (2, .int a2)]) dX12_wrongRow_13 rfl (by decide) rfl ?_
    exact jw_sub [1, 2, 3, 0] rfl h
  · replace h := h.2 c
    refine jw_iconst (pc := 10) (v := 4) dX12_wrongRow_10 rfl ?_
    exact jw_iret (pc := 11) dX12_wrongRow_11 rfl ⟨_, rfl, h⟩
set_option maxRecDepth 20000 in
theorem b_X12_wrongRow_14 {x : jX} {d : Nat} {M : jM} {P : jM → Int32 → Prop} {l1 : Int32} {l2 : Int32} {l3 : Int32} 
    (h : (l2 ≤ l3 → P M (0 : Int32)) ∧ (¬ l2 ≤ l3 → JC x jtbM mX12_numberOf d [.ref (x.2.2.2 0), .int l1, .int l3] M (jL fun M1 r1 => JC x jtbM mX12_isIn d [.long r1, .long (0 : Int64), .long (99 : Int64)] M1 (jZ fun M2 b1 => (b1 = true → JW x jtbM mX12_wrongRow (d + 1) (jI P) 14 [(0, .ref (x.2.2.2 0)), (1, .int l1), (2, .int l2), (3, .int (l3 + 1))] [] M2) ∧ (b1 = false → P M2 (5 : Int32)))))) :
    JW x jtbM mX12_wrongRow (d + 1) (jI P) 14 [(0, .ref (x.2.2.2 0)), (1, .int l1), (2, .int l2), (3, .int l3)] [] M := by
  refine jw_iload_n (pc := 14) (j := 3) dX12_wrongRow_14 rfl rfl ?_
  refine jw_iload_n (pc := 15) (j := 2) dX12_wrongRow_15 rfl rfl ?_
  refine jw_icmp_ge (pc := 16) (tgt := 43) dX12_wrongRow_16 (by decide) (fun c => ?_) (fun c => ?_)
  · replace h := h.1 c
    refine jw_iconst (pc := 43) (v := 0) dX12_wrongRow_43 rfl ?_
    exact jw_iret (pc := 44) dX12_wrongRow_44 rfl ⟨_, rfl, h⟩
  · replace h := h.2 c
    refine jw_aload_n (pc := 19) (j := 0) dX12_wrongRow_19 rfl rfl ?_
    refine jw_iload_n (pc := 20) (j := 1) dX12_wrongRow_20 rfl rfl ?_
    refine jw_iload_n (pc := 21) (j := 3) dX12_wrongRow_21 rfl rfl ?_
    refine jw_callV (pc := 22) (m2 := mX12_numberOf) (As := [.int l1, .int l3]) (st := []) dX12_wrongRow_22 sM_0 (by decide) rfl rfl gm_X12_numberOf ml_X12_332 rfl (Nat.le_of_ble_eq_true rfl) (JC.mono h ?_)
    clear h
    rintro M1 _ ⟨r1, rfl, h⟩
    refine jw_st (st' := [.long r1]) rfl ?_
    refine jw_lconst (pc := 25) (v := 0) dX12_wrongRow_25 rfl ?_
    refine jw_ldc2 (pc := 26) (v := 99) dX12_wrongRow_26 kl_X12_330 ?_
    refine jw_callS (pc := 29) (m2 := mX12_isIn) (As := [.long r1, .long (0 : Int64), .long (99 : Int64)]) (st := []) dX12_wrongRow_29 gm_X12_isIn ml_X12_116 rfl (Nat.le_of_ble_eq_true rfl) (JC.mono h ?_)
    clear h
    rintro M2 _ ⟨b1, rfl, h⟩
    refine jw_st (st' := [.int (jb b1)]) rfl ?_
    refine jw_if_ne (pc := 32) (tgt := 37) dX12_wrongRow_32 (by decide) (fun c => ?_) (fun c => ?_)
    · replace h := h.1 (jb_ne c)
      refine jw_iinc (pc := 37) (j := 3) (u := l3 + 1) (ls' := [(3, .int (l3 + 1)), (0, .ref (x.2.2.2 0)), (1, .int l1), (2, .int l2)]) dX12_wrongRow_37 rfl rfl (by decide) rfl ?_
      refine jw_goto (pc := 40) (tgt := 14) dX12_wrongRow_40 (by decide) ?_
      exact jw_sub [1, 2, 3, 0] rfl h
    · replace h := h.2 ((jb_0 _).mp c)
      refine jw_iconst (pc := 35) (v := 5) dX12_wrongRow_35 rfl ?_
      exact jw_iret (pc := 36) dX12_wrongRow_36 rfl ⟨_, rfl, h⟩
set_option maxRecDepth 20000 in
theorem b_X12_buildAll {x : jX} {d : Nat} {M : jM} {P : jM → Bool → Prop} {a1 : Int32} 
    (h : ∀ M1, M1 = jrI M 0 (upd (M.1 0) 1 (0 : Int32)) → ∀ M2, M2 = jrI M1 0 (upd (M1.1 0) 0 (0 : Int32)) → JC x jtbM mX12_isTray d [.ref (x.2.2.2 0), .int a1] M2 (jZ fun M3 b1 => (b1 = true → ∃ j1, j1 < 4 ∧ a1 = nI j1 ∧ ((0 ≤ (M3.1 2 j1) → JC x jtbM mX12_cells d [.ref (x.2.2.2 0)] M3 (jI fun M4 r1 => JC x jtbM mX12_wrongRow d [.ref (x.2.2.2 0), .int a1, .int r1] M4 (jI fun M5 r2 => (r2 ≤ 0 → JW x jtbM mX12_buildAll (d + 1) (jZ P) 61 [(0, .ref (x.2.2.2 0)), (1, .int a1), (3, .int (0 : Int32))] [] M5) ∧ (¬ r2 ≤ 0 → JC x jtbM mX12_no d [.ref (x.2.2.2 0), .int r2] M5 (jZ fun M6 b2 => P M6 b2))))) ∧ (¬ 0 ≤ (M3.1 2 j1) → JC x jtbM mX12_no d [.ref (x.2.2.2 0), .int (3 : Int32)] M3 (jZ fun M7 b3 => P M7 b3)))) ∧ (b1 = false → JC x jtbM mX12_no d [.ref (x.2.2.2 0), .int (1 : Int32)] M3 (jZ fun M8 b4 => P M8 b4)))) :
    JC x jtbM mX12_buildAll (d + 1) [.ref (x.2.2.2 0), .int a1] M (jZ P) := by
  refine JC.of rfl (Nat.le_of_ble_eq_true rfl) ?_
  refine jw_ls (ls' := [(0, .ref (x.2.2.2 0)), (1, .int a1)]) rfl ?_
  refine jw_aload_n (pc := 0) (j := 0) dX12_buildAll_0 rfl rfl ?_
  refine jw_iconst (pc := 1) (v := 0) dX12_buildAll_1 rfl ?_
  refine jw_putI (pc := 2) dX12_buildAll_2 sM_0 fl_X12_81 fw_12_1 (by decide) rfl ?_
  replace h := h _ rfl
  generalize jrI M 0 (upd (M.1 0) 1 (0 : Int32)) = M1 at h ⊢
  refine jw_aload_n (pc := 5) (j := 0) dX12_buildAll_5 rfl rfl ?_
  refine jw_iconst (pc := 6) (v := 0) dX12_buildAll_6 rfl ?_
  refine jw_putI (pc := 7) dX12_buildAll_7 sM_0 fl_X12_84 fw_12_0 (by decide) rfl ?_
  replace h := h _ rfl
  generalize jrI M1 0 (upd (M1.1 0) 0 (0 : Int32)) = M2 at h ⊢
  refine jw_aload_n (pc := 10) (j := 0) dX12_buildAll_10 rfl rfl ?_
  refine jw_iload_n (pc := 11) (j := 1) dX12_buildAll_11 rfl rfl ?_
  refine jw_callV (pc := 12) (m2 := mX12_isTray) (As := [.int a1]) (st := []) dX12_buildAll_12 sM_0 (by decide) rfl rfl gm_X12_isTray ml_X12_336 rfl (Nat.le_of_ble_eq_true rfl) (JC.mono h ?_)
  clear h
  rintro M3 _ ⟨b1, rfl, h⟩
  refine jw_st (st' := [.int (jb b1)]) rfl ?_
  refine jw_if_ne (pc := 15) (tgt := 24) dX12_buildAll_15 (by decide) (fun c => ?_) (fun c => ?_)
  · replace h := h.1 (jb_ne c)
    refine jw_aload_n (pc := 24) (j := 0) dX12_buildAll_24 rfl rfl ?_
    refine jw_getR (pc := 25) (r := 2) dX12_buildAll_25 sM_0 fl_X12_17 (by decide) rfl rfl ?_
    refine jw_iload_n (pc := 28) (j := 1) dX12_buildAll_28 rfl rfl ?_
    obtain ⟨j1, hj1, ej1, h⟩ := h
    refine jw_iald (pc := 29) (j := j1) dX12_buildAll_29 sM_2 hj1 ej1 (by decide) ?_
    refine jw_if_ge (pc := 30) (tgt := 39) dX12_buildAll_30 (by decide) (fun c => ?_) (fun c => ?_)
    · replace h := h.1 c
      refine jw_aload_n (pc := 39) (j := 0) dX12_buildAll_39 rfl rfl ?_
      refine jw_iload_n (pc := 40) (j := 1) dX12_buildAll_40 rfl rfl ?_
      refine jw_aload_n (pc := 41) (j := 0) dX12_buildAll_41 rfl rfl ?_
      refine jw_callV (pc := 42) (m2 := mX12_cells) (As := []) (st := [.int a1, .ref (x.2.2.2 0)]) dX12_buildAll_42 sM_0 (by decide) rfl rfl gm_X12_cells ml_X12_305 rfl (Nat.le_of_ble_eq_true rfl) (JC.mono h ?_)
      clear h
      rintro M4 _ ⟨r1, rfl, h⟩
      refine jw_st (st' := [.int r1, .int a1, .ref (x.2.2.2 0)]) rfl ?_
      refine jw_callV (pc := 45) (m2 := mX12_wrongRow) (As := [.int a1, .int r1]) (st := []) dX12_buildAll_45 sM_0 (by decide) rfl rfl gm_X12_wrongRow ml_X12_339 rfl (Nat.le_of_ble_eq_true rfl) (JC.mono h ?_)
      clear h
      rintro M5 _ ⟨r2, rfl, h⟩
      refine jw_st (st' := [.int r2]) rfl ?_
      refine jw_istore_n (pc := 48) (ls' := [(2, .int r2), (0, .ref (x.2.2.2 0)), (1, .int a1)]) dX12_buildAll_48 rfl (by decide) rfl ?_
      refine jw_iload_n (pc := 49) (j := 0) dX12_buildAll_49 rfl rfl ?_
      refine jw_if_le (pc := 50) (tgt := 59) dX12_buildAll_50 (by decide) (fun c => ?_) (fun c => ?_)
      · replace h := h.1 c
        refine jw_iconst (pc := 59) (v := 0) dX12_buildAll_59 rfl ?_
        refine jw_istore_n (pc := 60) (ls' := [(3, .int (0 : Int32)), (2, .int r2), (0, .ref (x.2.2.2 0)), (1, .int a1)]) dX12_buildAll_60 rfl (by decide) rfl ?_
        exact jw_sub [2, 3, 0] rfl h
      · replace h := h.2 c
        refine jw_aload_n (pc := 53) (j := 1) dX12_buildAll_53 rfl rfl ?_
        refine jw_iload_n (pc := 54) (j := 0) dX12_buildAll_54 rfl rfl ?_
        refine jw_callV (pc := 55) (m2 := mX12_no) (As := [.int r2]) (st := []) dX12_buildAll_55 sM_0 (by decide) rfl rfl gm_X12_no ml_X12_96 rfl (Nat.le_of_ble_eq_true rfl) (JC.mono h ?_)
        clear h
        rintro M6 _ ⟨b2, rfl, h⟩
        refine jw_st (st' := [.int (jb b2)]) rfl ?_
        exact jw_zret (pc := 58) dX12_buildAll_58 rfl (jb_01 _) ⟨_, rfl, h⟩
    · replace h := h.2 c
      refine jw_aload_n (pc := 33) (j := 0) dX12_buildAll_33 rfl rfl ?_
      refine jw_iconst (pc := 34) (v := 3) dX12_buildAll_34 rfl ?_
      refine jw_callV (pc := 35) (m2 := mX12_no) (As := [.int (3 : Int32)]) (st := []) dX12_buildAll_35 sM_0 (by decide) rfl rfl gm_X12_no ml_X12_96 rfl (Nat.le_of_ble_eq_true rfl) (JC.mono h ?_)
      clear h
      rintro M7 _ ⟨b3, rfl, h⟩
      refine jw_st (st' := [.int (jb b3)]) rfl ?_
      exact jw_zret (pc := 38) dX12_buildAll_38 rfl (jb_01 _) ⟨_, rfl, h⟩
  · replace h := h.2 ((jb_0 _).mp c)
    refine jw_aload_n (pc := 18) (j := 0) dX12_buildAll_18 rfl rfl ?_
    refine jw_iconst (pc := 19) (v := 1) dX12_buildAll_19 rfl ?_
    refine jw_callV (pc := 20) (m2 := mX12_no) (As := [.int (1 : Int32)]) (st := []) dX12_buildAll_20 sM_0 (by decide) rfl rfl gm_X12_no ml_X12_96 rfl (Nat.le_of_ble_eq_true rfl) (JC.mono h ?_)
    clear h
    rintro M8 _ ⟨b4, rfl, h⟩
    refine jw_st (st' := [.int (jb b4)]) rfl ?_
    exact jw_zret (pc := 23) dX12_buildAll_23 rfl (jb_01 _) ⟨_, rfl, h⟩
set_option maxRecDepth 20000 in
theorem b_X12_buildAll_61 {x : jX} {d : Nat} {M : jM} {P : jM → Bool → Prop} {l1 : Int32} {l3 : Int32} 
    (h : JC x jtbM mX12_cells d [.ref (x.2.2.2 0)] M (jI fun M1 r1 => (r1 ≤ l3 → P M1 true) ∧ (¬ r1 ≤ l3 → JC x jtbM mX12_numberOf d [.ref (x.2.2.2 0), .int l1, .int l3] M1 (jL fun M2 r2 => ∃ j1, j1 < 2060 ∧ (144 : Int32) + l3 = nI j1 ∧ (∀ M3, M3 = jrI M2 5 (upd (M2.1 5) j1 r2.toInt32) → JW x jtbM mX12_buildAll (d + 1) (jZ P) 61 [(0, .ref (x.2.2.2 0)), (1, .int l1), (3, .int (l3 + 1))] [] M3))))) :
    JW x jtbM mX12_buildAll (d + 1) (jZ P) 61 [(0, .ref (x.2.2.2 0)), (1, .int l1), (3, .int l3)] [] M := by
  refine jw_iload_n (pc := 61) (j := 2) dX12_buildAll_61 rfl rfl ?_
  refine jw_aload_n (pc := 62) (j := 0) dX12_buildAll_62 rfl rfl ?_
  refine jw_callV (pc := 63) (m2 := mX12_cells) (As := []) (st := [.int l3]) dX12_buildAll_63 sM_0 (by decide) rfl rfl gm_X12_cells ml_X12_305 rfl (Nat.le_of_ble_eq_true rfl) (JC.mono h ?_)
  clear h
  rintro M1 _ ⟨r1, rfl, h⟩
  refine jw_st (st' := [.int r1, .int l3]) rfl ?_
  refine jw_icmp_ge (pc := 66) (tgt := 92) dX12_buildAll_66 (by decide) (fun c => ?_) (fun c => ?_)
  · replace h := h.1 c
    refine jw_iconst (pc := 92) (v := 1) dX12_buildAll_92 rfl ?_
    exact jw_zret (pc := 93) dX12_buildAll_93 rfl (Or.inr rfl) ⟨true, rfl, h⟩
  · replace h := h.2 c
    refine jw_aload_n (pc := 69) (j := 0) dX12_buildAll_69 rfl rfl ?_
    refine jw_getR (pc := 70) (r := 5) dX12_buildAll_70 sM_0 fl_X12_35 (by decide) rfl rfl ?_
    refine jw_sipush (pc := 73) (v := 144) dX12_buildAll_73 rfl ?_
    refine jw_iload_n (pc := 76) (j := 2) dX12_buildAll_76 rfl rfl ?_
    refine jw_iadd (pc := 77) dX12_buildAll_77 ?_
    refine jw_aload_n (pc := 78) (j := 0) dX12_buildAll_78 rfl rfl ?_
    refine jw_iload_n (pc := 79) (j := 1) dX12_buildAll_79 rfl rfl ?_
    refine jw_iload_n (pc := 80) (j := 2) dX12_buildAll_80 rfl rfl ?_
    refine jw_callV (pc := 81) (m2 := mX12_numberOf) (As := [.int l1, .int l3]) (st := [.int ((144 : Int32) + l3), .ref (x.2.2.2 5)]) dX12_buildAll_81 sM_0 (by decide) rfl rfl gm_X12_numberOf ml_X12_332 rfl (Nat.le_of_ble_eq_true rfl) (JC.mono h ?_)
    clear h
    rintro M2 _ ⟨r2, rfl, h⟩
    refine jw_st (st' := [.long r2, .int ((144 : Int32) + l3), .ref (x.2.2.2 5)]) rfl ?_
    refine jw_l2i (pc := 84) dX12_buildAll_84 ?_
    obtain ⟨j1, hj1, ej1, h⟩ := h
    refine jw_iast (pc := 85) (j := j1) dX12_buildAll_85 sM_5 hj1 ej1 (by decide) ?_
    replace h := h _ rfl
    generalize jrI M2 5 (upd (M2.1 5) j1 r2.toInt32) = M3 at h ⊢
    refine jw_iinc (pc := 86) (j := 2) (u := l3 + 1) (ls' := [(3, .int (l3 + 1)), (0, .ref (x.2.2.2 0)), (1, .int l1)]) dX12_buildAll_86 rfl rfl (by decide) rfl ?_
    refine jw_goto (pc := 89) (tgt := 61) dX12_buildAll_89 (by decide) ?_
    exact jw_sub [1, 2, 0] rfl h
set_option maxRecDepth 20000 in
theorem b_X12_seenFrom {x : jX} {d : Nat} {M : jM} {P : jM → Int32 → Prop} {a1 : Int32} {a2 : Int32} 
    (h : JW x jtbM mX12_seenFrom (d + 1) (jI P) 5 [(0, .ref (x.2.2.2 0)), (1, .int a1), (2, .int a2), (3, .int (0 : Int32)), (4, .int (0 : Int32))] [] M) :
    JC x jtbM mX12_seenFrom (d + 1) [.ref (x.2.2.2 0), .int a1, .int a2] M (jI P) := by
  refine JC.of rfl (Nat.le_of_ble_eq_true rfl) ?_
  refine jw_ls (ls' := [(0, .ref (x.2.2.2 0)), (1, .int a1), (2, .int a2)]) rfl ?_
  refine jw_iconst (pc := 0) (v := 0) dX12_seenFrom_0 rfl ?_
  refine jw_istore_n (pc := 1) (ls' := [(3, .int (0 : Int32)), (0, .ref (x.2.2.2 0)), (1, .int a1), (2, .int a2)]) dX12_seenFrom_1 rfl (by decide) rfl ?_
  refine jw_iconst (pc := 2) (v := 0) dX12_seenFrom_2 rfl ?_
  refine jw_istore (pc := 3) (ls' := [(4, .int (0 : Int32)), (3, .int (0 : Int32)), (0, .ref (x.2.2.2 0)), (1, .int a1), (2, .int a2)]) dX12_seenFrom_3 (by decide) rfl ?_
  exact jw_sub [2, 3, 4, 1, 0] rfl h
set_option maxRecDepth 20000 in
theorem b_X12_seenFrom_5 {x : jX} {d : Nat} {M : jM} {P : jM → Int32 → Prop} {l1 : Int32} {l2 : Int32} {l3 : Int32} {l4 : Int32} 
    (h : JC x jtbM mX12_cells d [.ref (x.2.2.2 0)] M (jI fun M1 r1 => (r1 ≤ l4 → P M1 l3) ∧ (¬ r1 ≤ l4 → JC x jtbM mX12_stripOf d [.ref (x.2.2.2 0), .int l1, .int l4] M1 (jI fun M2 r2 => (¬ r2 = l2 → JW x jtbM mX12_seenFrom (d + 1) (jI P) 5 [(0, .ref (x.2.2.2 0)), (1, .int l1), (2, .int l2), (3, .int l3), (4, .int (l4 + 1))] [] M2) ∧ (r2 = l2 → ∃ j1, j1 < 2060 ∧ (144 : Int32) + l4 = nI j1 ∧ (JC x jtbM mJ9_max_7cf53 d [.int l3, .int (M2.1 5 j1)] M2 (jI fun M3 r3 => JW x jtbM mX12_seenFrom (d + 1) (jI P) 5 [(0, .ref (x.2.2.2 0)), (1, .int l1), (2, .int l2), (3, .int r3), (4, .int (l4 + 1))] [] M3))))))) :
    JW x jtbM mX12_seenFrom (d + 1) (jI P) 5 [(0, .ref (x.2.2.2 0)), (1, .int l1), (2, .int l2), (3, .int l3), (4, .int l4)] [] M := by
  refine jw_iload (pc := 5) (j := 4) dX12_seenFrom_5 rfl ?_
  refine jw_aload_n (pc := 7) (j := 0) dX12_seenFrom_7 rfl rfl ?_
  refine jw_callV (pc := 8) (m2 := mX12_cells) (As := []) (st := [.int l4]) dX12_seenFrom_8 sM_0 (by decide) rfl rfl gm_X12_cells ml_X12_305 rfl (Nat.le_of_ble_eq_true rfl) (JC.mono h ?_)
  clear h
  rintro M1 _ ⟨r1, rfl, h⟩
  refine jw_st (st' := [.int r1, .int l4]) rfl ?_
  refine jw_icmp_ge (pc := 11) (tgt := 47) dX12_seenFrom_11 (by decide) (fun c => ?_) (fun c => ?_)
  · replace h := h.1 c
    refine jw_iload_n (pc := 47) (j := 3) dX12_seenFrom_47 rfl rfl ?_
    exact jw_iret (pc := 48) dX12_seenFrom_48 rfl ⟨_, rfl, h⟩
  · replace h := h.2 c
    refine jw_aload_n (pc := 14) (j := 0) dX12_seenFrom_14 rfl rfl ?_
    refine jw_iload_n (pc := 15) (j := 1) dX12_seenFrom_15 rfl rfl ?_
    refine jw_iload (pc := 16) (j := 4) dX12_seenFrom_16 rfl ?_
    refine jw_callV (pc := 18) (m2 := mX12_stripOf) (As := [.int l1, .int l4]) (st := []) dX12_seenFrom_18 sM_0 (by decide) rfl rfl gm_X12_stripOf ml_X12_327 rfl (Nat.le_of_ble_eq_true rfl) (JC.mono h ?_)
    clear h
    rintro M2 _ ⟨r2, rfl, h⟩
    refine jw_st (st' := [.int r2]) rfl ?_
    refine jw_iload_n (pc := 21) (j := 2) dX12_seenFrom_21 rfl rfl ?_
    refine jw_icmp_ne (pc := 22) (tgt := 41) dX12_seenFrom_22 (by decide) (fun c => ?_) (fun c => ?_)
    · replace h := h.1 c
      refine jw_iinc (pc := 41) (j := 4) (u := l4 + 1) (ls' := [(4, .int (l4 + 1)), (0, .ref (x.2.2.2 0)), (1, .int l1), (2, .int l2), (3, .int l3)]) dX12_seenFrom_41 rfl rfl (by decide) rfl ?_
      refine jw_goto (pc := 44) (tgt := 5) dX12_seenFrom_44 (by decide) ?_
      exact jw_sub [1, 2, 3, 4, 0] rfl h
    · replace h := h.2 c
      refine jw_iload_n (pc := 25) (j := 3) dX12_seenFrom_25 rfl rfl ?_
      refine jw_aload_n (pc := 26) (j := 0) dX12_seenFrom_26 rfl rfl ?_
      refine jw_getR (pc := 27) (r := 5) dX12_seenFrom_27 sM_0 fl_X12_35 (by decide) rfl rfl ?_
      refine jw_sipush (pc := 30) (v := 144) dX12_seenFrom_30 rfl ?_
      refine jw_iload (pc := 33) (j := 4) dX12_seenFrom_33 rfl ?_
      refine jw_iadd (pc := 35) dX12_seenFrom_35 ?_
      obtain ⟨j1, hj1, ej1, h⟩ := h
      refine jw_iald (pc := 36) (j := j1) dX12_seenFrom_36 sM_5 hj1 ej1 (by decide) ?_
      refine jw_callS (pc := 37) (m2 := mJ9_max_7cf53) (As := [.int l3, .int (M2.1 5 j1)]) (st := []) dX12_seenFrom_37 gm_J9_max_7cf53 ml_X12_342 rfl (Nat.le_of_ble_eq_true rfl) (JC.mono h ?_)
      clear h
      rintro M3 _ ⟨r3, rfl, h⟩
      refine jw_st (st' := [.int r3]) rfl ?_
      refine jw_istore_n (pc := 40) (ls' := [(3, .int r3), (0, .ref (x.2.2.2 0)), (1, .int l1), (2, .int l2), (4, .int l4)]) dX12_seenFrom_40 rfl (by decide) rfl ?_
      refine jw_iinc (pc := 41) (j := 4) (u := l4 + 1) (ls' := [(4, .int (l4 + 1)), (3, .int r3), (0, .ref (x.2.2.2 0)), (1, .int l1), (2, .int l2)]) dX12_seenFrom_41 rfl rfl (by decide) rfl ?_
      refine jw_goto (pc := 44) (tgt := 5) dX12_seenFrom_44 (by decide) ?_
      exact jw_sub [2, 3, 4, 1, 0] rfl h
set_option maxRecDepth 20000 in
theorem b_X12_seen {x : jX} {d : Nat} {M : jM} {P : jM → Int32 → Prop} {a1 : Int32} {a2 : Int32} 
    (h : ∀ M1, M1 = jrI M 0 (upd (M.1 0) 1 (0 : Int32)) → ∀ M2, M2 = jrI M1 0 (upd (M1.1 0) 0 (0 : Int32)) → JC x jtbM mX12_isStrip d [.ref (x.2.2.2 0), .int a1, .int a2] M2 (jZ fun M3 b1 => (b1 = false → JC x jtbM mX12_refuse d [.ref (x.2.2.2 0), .int (2 : Int32)] M3 (jI fun M4 r1 => P M4 r1)) ∧ (b1 = true → ∃ j1, j1 < 2060 ∧ (78 : Int32) + a1 = nI j1 ∧ (JC x jtbM mX12_seenFrom d [.ref (x.2.2.2 0), .int (M3.1 5 j1), .int a2] M3 (jI fun M5 r2 => P M5 r2))))) :
    JC x jtbM mX12_seen (d + 1) [.ref (x.2.2.2 0), .int a1, .int a2] M (jI P) := by
  refine JC.of rfl (Nat.le_of_ble_eq_true rfl) ?_
  refine jw_ls (ls' := [(0, .ref (x.2.2.2 0)), (1, .int a1), (2, .int a2)]) rfl ?_
  refine jw_aload_n (pc := 0) (j := 0) dX12_seen_0 rfl rfl ?_
  refine jw_iconst (pc := 1) (v := 0) dX12_seen_1 rfl ?_
  refine jw_putI (pc := 2) dX12_seen_2 sM_0 fl_X12_81 fw_12_1 (by decide) rfl ?_
  replace h := h _ rfl
  generalize jrI M 0 (upd (M.1 0) 1 (0 : Int32)) = M1 at h ⊢
  refine jw_aload_n (pc := 5) (j := 0) dX12_seen_5 rfl rfl ?_
  refine jw_iconst (pc := 6) (v := 0) dX12_seen_6 rfl ?_
  refine jw_putI (pc := 7) dX12_seen_7 sM_0 fl_X12_84 fw_12_0 (by decide) rfl ?_
  replace h := h _ rfl
  generalize jrI M1 0 (upd (M1.1 0) 0 (0 : Int32)) = M2 at h ⊢
  refine jw_aload_n (pc := 10) (j := 0) dX12_seen_10 rfl rfl ?_
  refine jw_iload_n (pc := 11) (j := 1) dX12_seen_11 rfl rfl ?_
  refine jw_iload_n (pc := 12) (j := 2) dX12_seen_12 rfl rfl ?_
  refine jw_callV (pc := 13) (m2 := mX12_isStrip) (As := [.int a1, .int a2]) (st := []) dX12_seen_13 sM_0 (by decide) rfl rfl gm_X12_isStrip ml_X12_322 rfl (Nat.le_of_ble_eq_true rfl) (JC.mono h ?_)
  clear h
  rintro M3 _ ⟨b1, rfl, h⟩
  refine jw_st (st' := [.int (jb b1)]) rfl ?_
  refine jw_if_eq (pc := 16) (tgt := 36) dX12_seen_16 (by decide) (fun c => ?_) (fun c => ?_)
  · replace h := h.1 ((jb_0 _).mp c)
    refine jw_aload_n (pc := 36) (j := 0) dX12_seen_36 rfl rfl ?_
    refine jw_iconst (pc := 37) (v := 2) dX12_seen_37 rfl ?_
    refine jw_callV (pc := 38) (m2 := mX12_refuse) (As := [.int (2 : Int32)]) (st := []) dX12_seen_38 sM_0 (by decide) rfl rfl gm_X12_refuse ml_X12_316 rfl (Nat.le_of_ble_eq_true rfl) (JC.mono h ?_)
    clear h
    rintro M4 _ ⟨r1, rfl, h⟩
    refine jw_st (st' := [.int r1]) rfl ?_
    exact jw_iret (pc := 41) dX12_seen_41 rfl ⟨_, rfl, h⟩
  · replace h := h.2 (jb_ne c)
    refine jw_aload_n (pc := 19) (j := 0) dX12_seen_19 rfl rfl ?_
    refine jw_aload_n (pc := 20) (j := 0) dX12_seen_20 rfl rfl ?_
    refine jw_getR (pc := 21) (r := 5) dX12_seen_21 sM_0 fl_X12_35 (by decide) rfl rfl ?_
    refine jw_bipush (pc := 24) (v := 78) dX12_seen_24 rfl ?_
    refine jw_iload_n (pc := 26) (j := 1) dX12_seen_26 rfl rfl ?_
    refine jw_iadd (pc := 27) dX12_seen_27 ?_
    obtain ⟨j1, hj1, ej1, h⟩ := h
    refine jw_iald (pc := 28) (j := j1) dX12_seen_28 sM_5 hj1 ej1 (by decide) ?_
    refine jw_iload_n (pc := 29) (j := 2) dX12_seen_29 rfl rfl ?_
    refine jw_callV (pc := 30) (m2 := mX12_seenFrom) (As := [.int (M3.1 5 j1), .int a2]) (st := []) dX12_seen_30 sM_0 (by decide) rfl rfl gm_X12_seenFrom ml_X12_345 rfl (Nat.le_of_ble_eq_true rfl) (JC.mono h ?_)
    clear h
    rintro M5 _ ⟨r2, rfl, h⟩
    refine jw_st (st' := [.int r2]) rfl ?_
    refine jw_goto (pc := 33) (tgt := 41) dX12_seen_33 (by decide) ?_
    exact jw_iret (pc := 41) dX12_seen_41 rfl ⟨_, rfl, h⟩
set_option maxRecDepth 20000 in
theorem b_X12_otherwise {x : jX} {d : Nat} {M : jM} {P : jM → Int32 → Prop} {a1 : Int32} 
    (h : ∀ M1, M1 = jrI M 0 (upd (M.1 0) 1 (0 : Int32)) → ∀ M2, M2 = jrI M1 0 (upd (M1.1 0) 0 (0 : Int32)) → JC x jtbM mX12_isIn d [.long a1.toInt64, .long (0 : Int64), .long (1 : Int64)] M2 (jZ fun M3 b1 => (b1 = true → JW x jtbM mX12_otherwise (d + 1) (jI P) 28 [(0, .ref (x.2.2.2 0)), (1, .int a1), (2, .int (0 : Int32))] [] M3) ∧ (b1 = false → JC x jtbM mX12_refuse d [.ref (x.2.2.2 0), .int (5 : Int32)] M3 (jI fun M4 r1 => P M4 r1)))) :
    JC x jtbM mX12_otherwise (d + 1) [.ref (x.2.2.2 0), .int a1] M (jI P) := by
  refine JC.of rfl (Nat.le_of_ble_eq_true rfl) ?_
  refine jw_ls (ls' := [(0, .ref (x.2.2.2 0)), (1, .int a1)]) rfl ?_
  refine jw_aload_n (pc := 0) (j := 0) dX12_otherwise_0 rfl rfl ?_
  refine jw_iconst (pc := 1) (v := 0) dX12_otherwise_1 rfl ?_
  refine jw_putI (pc := 2) dX12_otherwise_2 sM_0 fl_X12_81 fw_12_1 (by decide) rfl ?_
  replace h := h _ rfl
  generalize jrI M 0 (upd (M.1 0) 1 (0 : Int32)) = M1 at h ⊢
  refine jw_aload_n (pc := 5) (j := 0) dX12_otherwise_5 rfl rfl ?_
  refine jw_iconst (pc := 6) (v := 0) dX12_otherwise_6 rfl ?_
  refine jw_putI (pc := 7) dX12_otherwise_7 sM_0 fl_X12_84 fw_12_0 (by decide) rfl ?_
  replace h := h _ rfl
  generalize jrI M1 0 (upd (M1.1 0) 0 (0 : Int32)) = M2 at h ⊢
  refine jw_iload_n (pc := 10) (j := 1) dX12_otherwise_10 rfl rfl ?_
  refine jw_i2l (pc := 11) dX12_otherwise_11 ?_
  refine jw_lconst (pc := 12) (v := 0) dX12_otherwise_12 rfl ?_
  refine jw_lconst (pc := 13) (v := 1) dX12_otherwise_13 rfl ?_
  refine jw_callS (pc := 14) (m2 := mX12_isIn) (As := [.long a1.toInt64, .long (0 : Int64), .long (1 : Int64)]) (st := []) dX12_otherwise_14 gm_X12_isIn ml_X12_116 rfl (Nat.le_of_ble_eq_true rfl) (JC.mono h ?_)
  clear h
  rintro M3 _ ⟨b1, rfl, h⟩
  refine jw_st (st' := [.int (jb b1)]) rfl ?_
  refine jw_if_ne (pc := 17) (tgt := 26) dX12_otherwise_17 (by decide) (fun c => ?_) (fun c => ?_)
  · replace h := h.1 (jb_ne c)
    refine jw_iconst (pc := 26) (v := 0) dX12_otherwise_26 rfl ?_
    refine jw_istore_n (pc := 27) (ls' := [(2, .int (0 : Int32)), (0, .ref (x.2.2.2 0)), (1, .int a1)]) dX12_otherwise_27 rfl (by decide) rfl ?_
    exact jw_sub [1, 2, 0] rfl h
  · replace h := h.2 ((jb_0 _).mp c)
    refine jw_aload_n (pc := 20) (j := 0) dX12_otherwise_20 rfl rfl ?_
    refine jw_iconst (pc := 21) (v := 5) dX12_otherwise_21 rfl ?_
    refine jw_callV (pc := 22) (m2 := mX12_refuse) (As := [.int (5 : Int32)]) (st := []) dX12_otherwise_22 sM_0 (by decide) rfl rfl gm_X12_refuse ml_X12_316 rfl (Nat.le_of_ble_eq_true rfl) (JC.mono h ?_)
    clear h
    rintro M4 _ ⟨r1, rfl, h⟩
    refine jw_st (st' := [.int r1]) rfl ?_
    exact jw_iret (pc := 25) dX12_otherwise_25 rfl ⟨_, rfl, h⟩
set_option maxRecDepth 20000 in
theorem b_X12_otherwise_28 {x : jX} {d : Nat} {M : jM} {P : jM → Int32 → Prop} {l1 : Int32} {l2 : Int32} 
    (h : ((M.1 5 2) ≤ l2 → JC x jtbM mX12_refuse d [.ref (x.2.2.2 0), .int (8 : Int32)] M (jI fun M1 r1 => P M1 r1)) ∧ (¬ (M.1 5 2) ≤ l2 → JW x jtbM mX12_otherwise (d + 1) (jI P) 40 [(0, .ref (x.2.2.2 0)), (1, .int l1), (2, .int l2), (3, .int (0 : Int32))] [] M)) :
    JW x jtbM mX12_otherwise (d + 1) (jI P) 28 [(0, .ref (x.2.2.2 0)), (1, .int l1), (2, .int l2)] [] M := by
  refine jw_iload_n (pc := 28) (j := 2) dX12_otherwise_28 rfl rfl ?_
  refine jw_aload_n (pc := 29) (j := 0) dX12_otherwise_29 rfl rfl ?_
  refine jw_getR (pc := 30) (r := 5) dX12_otherwise_30 sM_0 fl_X12_35 (by decide) rfl rfl ?_
  refine jw_iconst (pc := 33) (v := 2) dX12_otherwise_33 rfl ?_
  refine jw_iald (pc := 34) (j := 2) dX12_otherwise_34 sM_5 (by decide) rfl (by decide) ?_
  refine jw_icmp_ge (pc := 35) (tgt := 115) dX12_otherwise_35 (by decide) (fun c => ?_) (fun c => ?_)
  · replace h := h.1 c
    refine jw_aload_n (pc := 115) (j := 0) dX12_otherwise_115 rfl rfl ?_
    refine jw_bipush (pc := 116) (v := 8) dX12_otherwise_116 rfl ?_
    refine jw_callV (pc := 118) (m2 := mX12_refuse) (As := [.int (8 : Int32)]) (st := []) dX12_otherwise_118 sM_0 (by decide) rfl rfl gm_X12_refuse ml_X12_316 rfl (Nat.le_of_ble_eq_true rfl) (JC.mono h ?_)
    clear h
    rintro M1 _ ⟨r1, rfl, h⟩
    refine jw_st (st' := [.int r1]) rfl ?_
    exact jw_iret (pc := 121) dX12_otherwise_121 rfl ⟨_, rfl, h⟩
  · replace h := h.2 c
    refine jw_iconst (pc := 38) (v := 0) dX12_otherwise_38 rfl ?_
    refine jw_istore_n (pc := 39) (ls' := [(3, .int (0 : Int32)), (0, .ref (x.2.2.2 0)), (1, .int l1), (2, .int l2)]) dX12_otherwise_39 rfl (by decide) rfl ?_
    exact jw_sub [1, 2, 3, 0] rfl h
set_option maxRecDepth 20000 in
theorem b_X12_otherwise_40 {x : jX} {d : Nat} {M : jM} {P : jM → Int32 → Prop} {l1 : Int32} {l2 : Int32} {l3 : Int32} 
    (h : JC x jtbM mX12_strips d [.ref (x.2.2.2 0), .int l2] M (jI fun M1 r1 => (r1 ≤ l3 → JW x jtbM mX12_otherwise (d + 1) (jI P) 28 [(0, .ref (x.2.2.2 0)), (1, .int l1), (2, .int (l2 + 1))] [] M1) ∧ (¬ r1 ≤ l3 → ∃ j1, j1 < 2060 ∧ (84 : Int32) + l2 = nI j1 ∧ ((¬ (M1.1 5 j1) = (1 : Int32) → JW x jtbM mX12_otherwise (d + 1) (jI P) 40 [(0, .ref (x.2.2.2 0)), (1, .int l1), (2, .int l2), (3, .int (l3 + 1))] [] M1) ∧ ((M1.1 5 j1) = (1 : Int32) → ∃ j2, j2 < 2060 ∧ (78 : Int32) + l2 = nI j2 ∧ (JC x jtbM mX12_seenFrom d [.ref (x.2.2.2 0), .int (M1.1 5 j2), .int l3] M1 (jI fun M2 r2 => ∃ j3, j3 < 2060 ∧ ((90 : Int32) + ((9 : Int32) * l2)) + l3 = nI j3 ∧ ((r2 = (M2.1 5 j3) → JW x jtbM mX12_otherwise (d + 1) (jI P) 40 [(0, .ref (x.2.2.2 0)), (1, .int l1), (2, .int l2), (3, .int (l3 + 1))] [] M2) ∧ (¬ r2 = (M2.1 5 j3) → (¬ l1 = 0 → P M2 l3) ∧ (l1 = 0 → P M2 l2)))))))))) :
    JW x jtbM mX12_otherwise (d + 1) (jI P) 40 [(0, .ref (x.2.2.2 0)), (1, .int l1), (2, .int l2), (3, .int l3)] [] M := by
  refine jw_iload_n (pc := 40) (j := 3) dX12_otherwise_40 rfl rfl ?_
  refine jw_aload_n (pc := 41) (j := 0) dX12_otherwise_41 rfl rfl ?_
  refine jw_iload_n (pc := 42) (j := 2) dX12_otherwise_42 rfl rfl ?_
  refine jw_callV (pc := 43) (m2 := mX12_strips) (As := [.int l2]) (st := [.int l3]) dX12_otherwise_43 sM_0 (by decide) rfl rfl gm_X12_strips ml_X12_311 rfl (Nat.le_of_ble_eq_true rfl) (JC.mono h ?_)
  clear h
  rintro M1 _ ⟨r1, rfl, h⟩
  refine jw_st (st' := [.int r1, .int l3]) rfl ?_
  refine jw_icmp_ge (pc := 46) (tgt := 109) dX12_otherwise_46 (by decide) (fun c => ?_) (fun c => ?_)
  · replace h := h.1 c
    refine jw_iinc (pc := 109) (j := 2) (u := l2 + 1) (ls' := [(2, .int (l2 + 1)), (0, .ref (x.2.2.2 0)), (1, .int l1), (3, .int l3)]) dX12_otherwise_109 rfl rfl (by decide) rfl ?_
    refine jw_goto (pc := 112) (tgt := 28) dX12_otherwise_112 (by decide) ?_
    exact jw_sub [1, 2, 0] rfl h
  · replace h := h.2 c
    refine jw_aload_n (pc := 49) (j := 0) dX12_otherwise_49 rfl rfl ?_
    refine jw_getR (pc := 50) (r := 5) dX12_otherwise_50 sM_0 fl_X12_35 (by decide) rfl rfl ?_
    refine jw_bipush (pc := 53) (v := 84) dX12_otherwise_53 rfl ?_
    refine jw_iload_n (pc := 55) (j := 2) dX12_otherwise_55 rfl rfl ?_
    refine jw_iadd (pc := 56) dX12_otherwise_56 ?_
    obtain ⟨j1, hj1, ej1, h⟩ := h
    refine jw_iald (pc := 57) (j := j1) dX12_otherwise_57 sM_5 hj1 ej1 (by decide) ?_
    refine jw_iconst (pc := 58) (v := 1) dX12_otherwise_58 rfl ?_
    refine jw_icmp_ne (pc := 59) (tgt := 103) dX12_otherwise_59 (by decide) (fun c => ?_) (fun c => ?_)
    · replace h := h.1 c
      refine jw_iinc (pc := 103) (j := 3) (u := l3 + 1) (ls' := [(3, .int (l3 + 1)), (0, .ref (x.2.2.2 0)), (1, .int l1), (2, .int l2)]) dX12_otherwise_103 rfl rfl (by decide) rfl ?_
      refine jw_goto (pc := 106) (tgt := 40) dX12_otherwise_106 (by decide) ?_
      exact jw_sub [1, 2, 3, 0] rfl h
    · replace h := h.2 c
      refine jw_aload_n (pc := 62) (j := 0) dX12_otherwise_62 rfl rfl ?_
      refine jw_aload_n (pc := 63) (j := 0) dX12_otherwise_63 rfl rfl ?_
      refine jw_getR (pc := 64) (r := 5) dX12_otherwise_64 sM_0 fl_X12_35 (by decide) rfl rfl ?_
      refine jw_bipush (pc := 67) (v := 78) dX12_otherwise_67 rfl ?_
      refine jw_iload_n (pc := 69) (j := 2) dX12_otherwise_69 rfl rfl ?_
      refine jw_iadd (pc := 70) dX12_otherwise_70 ?_
      obtain ⟨j2, hj2, ej2, h⟩ := h
      refine jw_iald (pc := 71) (j := j2) dX12_otherwise_71 sM_5 hj2 ej2 (by decide) ?_
      refine jw_iload_n (pc := 72) (j := 3) dX12_otherwise_72 rfl rfl ?_
      refine jw_callV (pc := 73) (m2 := mX12_seenFrom) (As := [.int (M1.1 5 j2), .int l3]) (st := []) dX12_otherwise_73 sM_0 (by decide) rfl rfl gm_X12_seenFrom ml_X12_345 rfl (Nat.le_of_ble_eq_true rfl) (JC.mono h ?_)
      clear h
      rintro M2 _ ⟨r2, rfl, h⟩
      refine jw_st (st' := [.int r2]) rfl ?_
      refine jw_aload_n (pc := 76) (j := 0) dX12_otherwise_76 rfl rfl ?_
      refine jw_getR (pc := 77) (r := 5) dX12_otherwise_77 sM_0 fl_X12_35 (by decide) rfl rfl ?_
      refine jw_bipush (pc := 80) (v := 90) dX12_otherwise_80 rfl ?_
      refine jw_bipush (pc := 82) (v := 9) dX12_otherwise_82 rfl ?_
      refine jw_iload_n (pc := 84) (j := 2) dX12_otherwise_84 rfl rfl ?_
      refine jw_imul (pc := 85) dX12_otherwise_85 ?_
      refine jw_iadd (pc := 86) dX12_otherwise_86 ?_
      refine jw_iload_n (pc := 87) (j := 3) dX12_otherwise_87 rfl rfl ?_
      refine jw_iadd (pc := 88) dX12_otherwise_88 ?_
      obtain ⟨j3, hj3, ej3, h⟩ := h
      refine jw_iald (pc := 89) (j := j3) dX12_otherwise_89 sM_5 hj3 ej3 (by decide) ?_
      refine jw_icmp_eq (pc := 90) (tgt := 103) dX12_otherwise_90 (by decide) (fun c => ?_) (fun c => ?_)
      · replace h := h.1 c
        refine jw_iinc (pc := 103) (j := 3) (u := l3 + 1) (ls' := [(3, .int (l3 + 1)), (0, .ref (x.2.2.2 0)), (1, .int l1), (2, .int l2)]) dX12_otherwise_103 rfl rfl (by decide) rfl ?_
        refine jw_goto (pc := 106) (tgt := 40) dX12_otherwise_106 (by decide) ?_
        exact jw_sub [1, 2, 3, 0] rfl h
      · replace h := h.2 c
        refine jw_iload_n (pc := 93) (j := 1) dX12_otherwise_93 rfl rfl ?_
        refine jw_if_ne (pc := 94) (tgt := 101) dX12_otherwise_94 (by decide) (fun c => ?_) (fun c => ?_)
        · replace h := h.1 c
          refine jw_iload_n (pc := 101) (j := 3) dX12_otherwise_101 rfl rfl ?_
          exact jw_iret (pc := 102) dX12_otherwise_102 rfl ⟨_, rfl, h⟩
        · replace h := h.2 c
          refine jw_iload_n (pc := 97) (j := 2) dX12_otherwise_97 rfl rfl ?_
          refine jw_goto (pc := 98) (tgt := 102) dX12_otherwise_98 (by decide) ?_
          exact jw_iret (pc := 102) dX12_otherwise_102 rfl ⟨_, rfl, h⟩
set_option maxRecDepth 20000 in
theorem b_X12_stoneNow {x : jX} {d : Nat} {M : jM} {P : jM → Int32 → Prop}  
    (h : JW x jtbM mX12_stoneNow (d + 1) (jI P) 4 [(0, .ref (x.2.2.2 0)), (1, .int (0 : Int32)), (2, .int (0 : Int32))] [] M) :
    JC x jtbM mX12_stoneNow (d + 1) [.ref (x.2.2.2 0)] M (jI P) := by
  refine JC.of rfl (Nat.le_of_ble_eq_true rfl) ?_
  refine jw_ls (ls' := [(0, .ref (x.2.2.2 0))]) rfl ?_
  refine jw_iconst (pc := 0) (v := 0) dX12_stoneNow_0 rfl ?_
  refine jw_istore_n (pc := 1) (ls' := [(1, .int (0 : Int32)), (0, .ref (x.2.2.2 0))]) dX12_stoneNow_1 rfl (by decide) rfl ?_
  refine jw_iconst (pc := 2) (v := 0) dX12_stoneNow_2 rfl ?_
  refine jw_istore_n (pc := 3) (ls' := [(2, .int (0 : Int32)), (1, .int (0 : Int32)), (0, .ref (x.2.2.2 0))]) dX12_stoneNow_3 rfl (by decide) rfl ?_
  exact jw_sub [2, 1, 0] rfl h
set_option maxRecDepth 20000 in
theorem b_X12_stoneNow_4 {x : jX} {d : Nat} {M : jM} {P : jM → Int32 → Prop} {l1 : Int32} {l2 : Int32} 
    (h : JC x jtbM mX12_cells d [.ref (x.2.2.2 0)] M (jI fun M1 r1 => (r1 ≤ l2 → P M1 l1) ∧ (¬ r1 ≤ l2 → ∃ j1, j1 < 2060 ∧ (144 : Int32) + l2 = nI j1 ∧ (∃ j2, j2 < 2060 ∧ (28 : Int32) + l2 = nI j2 ∧ (JC x jtbM mJ9_max_7cf53 d [.int (0 : Int32), .int ((M1.1 5 j1) - (M1.1 5 j2))] M1 (jI fun M2 r2 => ∃ j3, j3 < 2060 ∧ (53 : Int32) + l2 = nI j3 ∧ (JW x jtbM mX12_stoneNow (d + 1) (jI P) 4 [(0, .ref (x.2.2.2 0)), (1, .int (l1 + (r2 * (M2.1 5 j3)))), (2, .int (l2 + 1))] [] M2))))))) :
    JW x jtbM mX12_stoneNow (d + 1) (jI P) 4 [(0, .ref (x.2.2.2 0)), (1, .int l1), (2, .int l2)] [] M := by
  refine jw_iload_n (pc := 4) (j := 2) dX12_stoneNow_4 rfl rfl ?_
  refine jw_aload_n (pc := 5) (j := 0) dX12_stoneNow_5 rfl rfl ?_
  refine jw_callV (pc := 6) (m2 := mX12_cells) (As := []) (st := [.int l2]) dX12_stoneNow_6 sM_0 (by decide) rfl rfl gm_X12_cells ml_X12_305 rfl (Nat.le_of_ble_eq_true rfl) (JC.mono h ?_)
  clear h
  rintro M1 _ ⟨r1, rfl, h⟩
  refine jw_st (st' := [.int r1, .int l2]) rfl ?_
  refine jw_icmp_ge (pc := 9) (tgt := 55) dX12_stoneNow_9 (by decide) (fun c => ?_) (fun c => ?_)
  · replace h := h.1 c
    refine jw_iload_n (pc := 55) (j := 1) dX12_stoneNow_55 rfl rfl ?_
    exact jw_iret (pc := 56) dX12_stoneNow_56 rfl ⟨_, rfl, h⟩
  · replace h := h.2 c
    refine jw_iload_n (pc := 12) (j := 1) dX12_stoneNow_12 rfl rfl ?_
    refine jw_iconst (pc := 13) (v := 0) dX12_stoneNow_13 rfl ?_
    refine jw_aload_n (pc := 14) (j := 0) dX12_stoneNow_14 rfl rfl ?_
    refine jw_getR (pc := 15) (r := 5) dX12_stoneNow_15 sM_0 fl_X12_35 (by decide) rfl rfl ?_
    refine jw_sipush (pc := 18) (v := 144) dX12_stoneNow_18 rfl ?_
    refine jw_iload_n (pc := 21) (j := 2) dX12_stoneNow_21 rfl rfl ?_
    refine jw_iadd (pc := 22) dX12_stoneNow_22 ?_
    obtain ⟨j1, hj1, ej1, h⟩ := h
    refine jw_iald (pc := 23) (j := j1) dX12_stoneNow_23 sM_5 hj1 ej1 (by decide) ?_
    refine jw_aload_n (pc := 24) (j := 0) dX12_stoneNow_24 rfl rfl ?_
    refine jw_getR (pc := 25) (r := 5) dX12_stoneNow_25 sM_0 fl_X12_35 (by decide) rfl rfl ?_
    refine jw_bipush (pc := 28) (v := 28) dX12_stoneNow_28 rfl ?_
    refine jw_iload_n (pc := 30) (j := 2) dX12_stoneNow_30 rfl rfl ?_
    refine jw_iadd (pc := 31) dX12_stoneNow_31 ?_
    obtain ⟨j2, hj2, ej2, h⟩ := h
    refine jw_iald (pc := 32) (j := j2) dX12_stoneNow_32 sM_5 hj2 ej2 (by decide) ?_
    refine jw_isub (pc := 33) dX12_stoneNow_33 ?_
    refine jw_callS (pc := 34) (m2 := mJ9_max_7cf53) (As := [.int (0 : Int32), .int ((M1.1 5 j1) - (M1.1 5 j2))]) (st := [.int l1]) dX12_stoneNow_34 gm_J9_max_7cf53 ml_X12_342 rfl (Nat.le_of_ble_eq_true rfl) (JC.mono h ?_)
    clear h
    rintro M2 _ ⟨r2, rfl, h⟩
    refine jw_st (st' := [.int r2, .int l1]) rfl ?_
    refine jw_aload_n (pc := 37) (j := 0) dX12_stoneNow_37 rfl rfl ?_
    refine jw_getR (pc := 38) (r := 5) dX12_stoneNow_38 sM_0 fl_X12_35 (by decide) rfl rfl ?_
    refine jw_bipush (pc := 41) (v := 53) dX12_stoneNow_41 rfl ?_
    refine jw_iload_n (pc := 43) (j := 2) dX12_stoneNow_43 rfl rfl ?_
    refine jw_iadd (pc := 44) dX12_stoneNow_44 ?_
    obtain ⟨j3, hj3, ej3, h⟩ := h
    refine jw_iald (pc := 45) (j := j3) dX12_stoneNow_45 sM_5 hj3 ej3 (by decide) ?_
    refine jw_imul (pc := 46) dX12_stoneNow_46 ?_
    refine jw_iadd (pc := 47) dX12_stoneNow_47 ?_
    refine jw_istore_n (pc := 48) (ls' := [(1, .int (l1 + (r2 * (M2.1 5 j3)))), (0, .ref (x.2.2.2 0)), (2, .int l2)]) dX12_stoneNow_48 rfl (by decide) rfl ?_
    refine jw_iinc (pc := 49) (j := 2) (u := l2 + 1) (ls' := [(2, .int (l2 + 1)), (1, .int (l1 + (r2 * (M2.1 5 j3)))), (0, .ref (x.2.2.2 0))]) dX12_stoneNow_49 rfl rfl (by decide) rfl ?_
    refine jw_goto (pc := 52) (tgt := 4) dX12_stoneNow_52 (by decide) ?_
    exact jw_sub [2, 1, 0] rfl h
set_option maxRecDepth 20000 in
theorem b_X12_stone {x : jX} {d : Nat} {M : jM} {P : jM → Int32 → Prop}  
    (h : ∀ M1, M1 = jrI M 0 (upd (M.1 0) 1 (0 : Int32)) → ∀ M2, M2 = jrI M1 0 (upd (M1.1 0) 0 (0 : Int32)) → JC x jtbM mX12_stoneNow d [.ref (x.2.2.2 0)] M2 (jI fun M3 r1 => P M3 r1)) :
    JC x jtbM mX12_stone (d + 1) [.ref (x.2.2.2 0)] M (jI P) := by
  refine JC.of rfl (Nat.le_of_ble_eq_true rfl) ?_
  refine jw_ls (ls' := [(0, .ref (x.2.2.2 0))]) rfl ?_
  refine jw_aload_n (pc := 0) (j := 0) dX12_stone_0 rfl rfl ?_
  refine jw_iconst (pc := 1) (v := 0) dX12_stone_1 rfl ?_
  refine jw_putI (pc := 2) dX12_stone_2 sM_0 fl_X12_81 fw_12_1 (by decide) rfl ?_
  replace h := h _ rfl
  generalize jrI M 0 (upd (M.1 0) 1 (0 : Int32)) = M1 at h ⊢
  refine jw_aload_n (pc := 5) (j := 0) dX12_stone_5 rfl rfl ?_
  refine jw_iconst (pc := 6) (v := 0) dX12_stone_6 rfl ?_
  refine jw_putI (pc := 7) dX12_stone_7 sM_0 fl_X12_84 fw_12_0 (by decide) rfl ?_
  replace h := h _ rfl
  generalize jrI M1 0 (upd (M1.1 0) 0 (0 : Int32)) = M2 at h ⊢
  refine jw_aload_n (pc := 10) (j := 0) dX12_stone_10 rfl rfl ?_
  refine jw_callV (pc := 11) (m2 := mX12_stoneNow) (As := []) (st := []) dX12_stone_11 sM_0 (by decide) rfl rfl gm_X12_stoneNow ml_X12_348 rfl (Nat.le_of_ble_eq_true rfl) (JC.mono h ?_)
  clear h
  rintro M3 _ ⟨r1, rfl, h⟩
  refine jw_st (st' := [.int r1]) rfl ?_
  exact jw_iret (pc := 14) dX12_stone_14 rfl ⟨_, rfl, h⟩
set_option maxRecDepth 20000 in
theorem b_X12_ask {x : jX} {d : Nat} {M : jM} {P : jM → Prop} {a1 : Int32} 
    (h : JW x jtbM mX12_ask (d + 1) (jV P) 2 [(0, .ref (x.2.2.2 0)), (1, .int a1), (2, .int (0 : Int32))] [] M) :
    JC x jtbM mX12_ask (d + 1) [.ref (x.2.2.2 0), .int a1] M (jV P) := by
  refine JC.of rfl (Nat.le_of_ble_eq_true rfl) ?_
  refine jw_ls (ls' := [(0, .ref (x.2.2.2 0)), (1, .int a1)]) rfl ?_
  refine jw_iconst (pc := 0) (v := 0) dX12_ask_0 rfl ?_
  refine jw_istore_n (pc := 1) (ls' := [(2, .int (0 : Int32)), (0, .ref (x.2.2.2 0)), (1, .int a1)]) dX12_ask_1 rfl (by decide) rfl ?_
  exact jw_sub [1, 2, 0] rfl h
set_option maxRecDepth 20000 in
theorem b_X12_ask_2 {x : jX} {d : Nat} {M : jM} {P : jM → Prop} {l1 : Int32} {l2 : Int32} 
    (h : ((M.1 5 2) ≤ l2 → JC x jtbM mX12_tellCaps d [.ref (x.2.2.2 0)] M (jV fun M1 => P M1)) ∧ (¬ (M.1 5 2) ≤ l2 → (¬ ((l1 >>> (l2 &&& 31)) &&& (1 : Int32)) = (1 : Int32) → ∃ j1, j1 < 6 ∧ l2 = nI j1 ∧ (∀ M2, M2 = jrI M 7 (upd (M.1 7) j1 (0 : Int32)) → JW x jtbM mX12_ask (d + 1) (jV P) 47 [(0, .ref (x.2.2.2 0)), (1, .int l1), (2, .int l2), (3, .int (0 : Int32))] [] M2)) ∧ (((l1 >>> (l2 &&& 31)) &&& (1 : Int32)) = (1 : Int32) → ∃ j2, j2 < 2060 ∧ (84 : Int32) + l2 = nI j2 ∧ ((¬ (M.1 5 j2) = (1 : Int32) → ∃ j3, j3 < 6 ∧ l2 = nI j3 ∧ (∀ M3, M3 = jrI M 7 (upd (M.1 7) j3 (0 : Int32)) → JW x jtbM mX12_ask (d + 1) (jV P) 47 [(0, .ref (x.2.2.2 0)), (1, .int l1), (2, .int l2), (3, .int (0 : Int32))] [] M3)) ∧ ((M.1 5 j2) = (1 : Int32) → ∃ j4, j4 < 6 ∧ l2 = nI j4 ∧ (∀ M4, M4 = jrI M 7 (upd (M.1 7) j4 (1 : Int32)) → JW x jtbM mX12_ask (d + 1) (jV P) 47 [(0, .ref (x.2.2.2 0)), (1, .int l1), (2, .int l2), (3, .int (0 : Int32))] [] M4)))))) :
    JW x jtbM mX12_ask (d + 1) (jV P) 2 [(0, .ref (x.2.2.2 0)), (1, .int l1), (2, .int l2)] [] M := by
  refine jw_iload_n (pc := 2) (j := 2) dX12_ask_2 rfl rfl ?_
  refine jw_aload_n (pc := 3) (j := 0) dX12_ask_3 rfl rfl ?_
  refine jw_getR (pc := 4) (r := 5) dX12_ask_4 sM_0 fl_X12_35 (by decide) rfl rfl ?_
  refine jw_iconst (pc := 7) (v := 2) dX12_ask_7 rfl ?_
  refine jw_iald (pc := 8) (j := 2) dX12_ask_8 sM_5 (by decide) rfl (by decide) ?_
  refine jw_icmp_ge (pc := 9) (tgt := 93) dX12_ask_9 (by decide) (fun c => ?_) (fun c => ?_)
  · replace h := h.1 c
    refine jw_aload_n (pc := 93) (j := 0) dX12_ask_93 rfl rfl ?_
    refine jw_callV (pc := 94) (m2 := mX12_tellCaps) (As := []) (st := []) dX12_ask_94 sM_0 (by decide) rfl rfl gm_X12_tellCaps ml_X12_351 rfl (Nat.le_of_ble_eq_true rfl) (JC.mono h ?_)
    clear h
    rintro M1 _ ⟨rfl, h⟩
    refine jw_st (st' := []) rfl ?_
    exact jw_vret (pc := 97) dX12_ask_97 rfl ⟨rfl, h⟩
  · replace h := h.2 c
    refine jw_aload_n (pc := 12) (j := 0) dX12_ask_12 rfl rfl ?_
    refine jw_getR (pc := 13) (r := 7) dX12_ask_13 sM_0 fl_X12_41 (by decide) rfl rfl ?_
    refine jw_iload_n (pc := 16) (j := 2) dX12_ask_16 rfl rfl ?_
    refine jw_iload_n (pc := 17) (j := 1) dX12_ask_17 rfl rfl ?_
    refine jw_iload_n (pc := 18) (j := 2) dX12_ask_18 rfl rfl ?_
    refine jw_ishr (pc := 19) dX12_ask_19 ?_
    refine jw_iconst (pc := 20) (v := 1) dX12_ask_20 rfl ?_
    refine jw_iand (pc := 21) dX12_ask_21 ?_
    refine jw_iconst (pc := 22) (v := 1) dX12_ask_22 rfl ?_
    refine jw_icmp_ne (pc := 23) (tgt := 43) dX12_ask_23 (by decide) (fun c => ?_) (fun c => ?_)
    · replace h := h.1 c
      refine jw_iconst (pc := 43) (v := 0) dX12_ask_43 rfl ?_
      obtain ⟨j1, hj1, ej1, h⟩ := h
      refine jw_zast (pc := 44) (j := j1) dX12_ask_44 sM_7 hj1 ej1 (by decide) (Or.inl rfl) ?_
      replace h := h _ rfl
      generalize jrI M 7 (upd (M.1 7) j1 (0 : Int32)) = M2 at h ⊢
      refine jw_iconst (pc := 45) (v := 0) dX12_ask_45 rfl ?_
      refine jw_istore_n (pc := 46) (ls' := [(3, .int (0 : Int32)), (0, .ref (x.2.2.2 0)), (1, .int l1), (2, .int l2)]) dX12_ask_46 rfl (by decide) rfl ?_
      exact jw_sub [1, 2, 3, 0] rfl h
    · replace h := h.2 c
      refine jw_aload_n (pc := 26) (j := 0) dX12_ask_26 rfl rfl ?_
      refine jw_getR (pc := 27) (r := 5) dX12_ask_27 sM_0 fl_X12_35 (by decide) rfl rfl ?_
      refine jw_bipush (pc := 30) (v := 84) dX12_ask_30 rfl ?_
      refine jw_iload_n (pc := 32) (j := 2) dX12_ask_32 rfl rfl ?_
      refine jw_iadd (pc := 33) dX12_ask_33 ?_
      obtain ⟨j2, hj2, ej2, h⟩ := h
      refine jw_iald (pc := 34) (j := j2) dX12_ask_34 sM_5 hj2 ej2 (by decide) ?_
      refine jw_iconst (pc := 35) (v := 1) dX12_ask_35 rfl ?_
      refine jw_icmp_ne (pc := 36) (tgt := 43) dX12_ask_36 (by decide) (fun c => ?_) (fun c => ?_)
      · replace h := h.1 c
        refine jw_iconst (pc := 43) (v := 0) dX12_ask_43 rfl ?_
        obtain ⟨j3, hj3, ej3, h⟩ := h
        refine jw_zast (pc := 44) (j := j3) dX12_ask_44 sM_7 hj3 ej3 (by decide) (Or.inl rfl) ?_
        replace h := h _ rfl
        generalize jrI M 7 (upd (M.1 7) j3 (0 : Int32)) = M3 at h ⊢
        refine jw_iconst (pc := 45) (v := 0) dX12_ask_45 rfl ?_
        refine jw_istore_n (pc := 46) (ls' := [(3, .int (0 : Int32)), (0, .ref (x.2.2.2 0)), (1, .int l1), (2, .int l2)]) dX12_ask_46 rfl (by decide) rfl ?_
        exact jw_sub [1, 2, 3, 0] rfl h
      · replace h := h.2 c
        refine jw_iconst (pc := 39) (v := 1) dX12_ask_39 rfl ?_
        refine jw_goto (pc := 40) (tgt := 44) dX12_ask_40 (by decide) ?_
        obtain ⟨j4, hj4, ej4, h⟩ := h
        refine jw_zast (pc := 44) (j := j4) dX12_ask_44 sM_7 hj4 ej4 (by decide) (Or.inr rfl) ?_
        replace h := h _ rfl
        generalize jrI M 7 (upd (M.1 7) j4 (1 : Int32)) = M4 at h ⊢
        refine jw_iconst (pc := 45) (v := 0) dX12_ask_45 rfl ?_
        refine jw_istore_n (pc := 46) (ls' := [(3, .int (0 : Int32)), (0, .ref (x.2.2.2 0)), (1, .int l1), (2, .int l2)]) dX12_ask_46 rfl (by decide) rfl ?_
        exact jw_sub [1, 2, 3, 0] rfl h
set_option maxRecDepth 20000 in
theorem b_X12_ask_47 {x : jX} {d : Nat} {M : jM} {P : jM → Prop} {l1 : Int32} {l2 : Int32} {l3 : Int32} 
    (h : JC x jtbM mX12_strips d [.ref (x.2.2.2 0), .int l2] M (jI fun M1 r1 => (r1 ≤ l3 → JW x jtbM mX12_ask (d + 1) (jV P) 2 [(0, .ref (x.2.2.2 0)), (1, .int l1), (2, .int (l2 + 1))] [] M1) ∧ (¬ r1 ≤ l3 → ∃ j1, j1 < 2060 ∧ ((90 : Int32) + ((9 : Int32) * l2)) + l3 = nI j1 ∧ (∃ j2, j2 < 54 ∧ ((9 : Int32) * l2) + l3 = nI j2 ∧ (∀ M2, M2 = jrI M1 8 (upd (M1.1 8) j2 (M1.1 5 j1)) → JW x jtbM mX12_ask (d + 1) (jV P) 47 [(0, .ref (x.2.2.2 0)), (1, .int l1), (2, .int l2), (3, .int (l3 + 1))] [] M2))))) :
    JW x jtbM mX12_ask (d + 1) (jV P) 47 [(0, .ref (x.2.2.2 0)), (1, .int l1), (2, .int l2), (3, .int l3)] [] M := by
  refine jw_iload_n (pc := 47) (j := 3) dX12_ask_47 rfl rfl ?_
  refine jw_aload_n (pc := 48) (j := 0) dX12_ask_48 rfl rfl ?_
  refine jw_iload_n (pc := 49) (j := 2) dX12_ask_49 rfl rfl ?_
  refine jw_callV (pc := 50) (m2 := mX12_strips) (As := [.int l2]) (st := [.int l3]) dX12_ask_50 sM_0 (by decide) rfl rfl gm_X12_strips ml_X12_311 rfl (Nat.le_of_ble_eq_true rfl) (JC.mono h ?_)
  clear h
  rintro M1 _ ⟨r1, rfl, h⟩
  refine jw_st (st' := [.int r1, .int l3]) rfl ?_
  refine jw_icmp_ge (pc := 53) (tgt := 87) dX12_ask_53 (by decide) (fun c => ?_) (fun c => ?_)
  · replace h := h.1 c
    refine jw_iinc (pc := 87) (j := 2) (u := l2 + 1) (ls' := [(2, .int (l2 + 1)), (0, .ref (x.2.2.2 0)), (1, .int l1), (3, .int l3)]) dX12_ask_87 rfl rfl (by decide) rfl ?_
    refine jw_goto (pc := 90) (tgt := 2) dX12_ask_90 (by decide) ?_
    exact jw_sub [1, 2, 0] rfl h
  · replace h := h.2 c
    refine jw_aload_n (pc := 56) (j := 0) dX12_ask_56 rfl rfl ?_
    refine jw_getR (pc := 57) (r := 8) dX12_ask_57 sM_0 fl_X12_45 (by decide) rfl rfl ?_
    refine jw_bipush (pc := 60) (v := 9) dX12_ask_60 rfl ?_
    refine jw_iload_n (pc := 62) (j := 2) dX12_ask_62 rfl rfl ?_
    refine jw_imul (pc := 63) dX12_ask_63 ?_
    refine jw_iload_n (pc := 64) (j := 3) dX12_ask_64 rfl rfl ?_
    refine jw_iadd (pc := 65) dX12_ask_65 ?_
    refine jw_aload_n (pc := 66) (j := 0) dX12_ask_66 rfl rfl ?_
    refine jw_getR (pc := 67) (r := 5) dX12_ask_67 sM_0 fl_X12_35 (by decide) rfl rfl ?_
    refine jw_bipush (pc := 70) (v := 90) dX12_ask_70 rfl ?_
    refine jw_bipush (pc := 72) (v := 9) dX12_ask_72 rfl ?_
    refine jw_iload_n (pc := 74) (j := 2) dX12_ask_74 rfl rfl ?_
    refine jw_imul (pc := 75) dX12_ask_75 ?_
    refine jw_iadd (pc := 76) dX12_ask_76 ?_
    refine jw_iload_n (pc := 77) (j := 3) dX12_ask_77 rfl rfl ?_
    refine jw_iadd (pc := 78) dX12_ask_78 ?_
    obtain ⟨j1, hj1, ej1, h⟩ := h
    refine jw_iald (pc := 79) (j := j1) dX12_ask_79 sM_5 hj1 ej1 (by decide) ?_
    obtain ⟨j2, hj2, ej2, h⟩ := h
    refine jw_iast (pc := 80) (j := j2) dX12_ask_80 sM_8 hj2 ej2 (by decide) ?_
    replace h := h _ rfl
    generalize jrI M1 8 (upd (M1.1 8) j2 (M1.1 5 j1)) = M2 at h ⊢
    refine jw_iinc (pc := 81) (j := 3) (u := l3 + 1) (ls' := [(3, .int (l3 + 1)), (0, .ref (x.2.2.2 0)), (1, .int l1), (2, .int l2)]) dX12_ask_81 rfl rfl (by decide) rfl ?_
    refine jw_goto (pc := 84) (tgt := 47) dX12_ask_84 (by decide) ?_
    exact jw_sub [1, 2, 3, 0] rfl h
set_option maxRecDepth 20000 in
theorem b_X12_tellCaps {x : jX} {d : Nat} {M : jM} {P : jM → Prop}  
    (h : JW x jtbM mX12_tellCaps (d + 1) (jV P) 2 [(0, .ref (x.2.2.2 0)), (1, .int (0 : Int32))] [] M) :
    JC x jtbM mX12_tellCaps (d + 1) [.ref (x.2.2.2 0)] M (jV P) := by
  refine JC.of rfl (Nat.le_of_ble_eq_true rfl) ?_
  refine jw_ls (ls' := [(0, .ref (x.2.2.2 0))]) rfl ?_
  refine jw_iconst (pc := 0) (v := 0) dX12_tellCaps_0 rfl ?_
  refine jw_istore_n (pc := 1) (ls' := [(1, .int (0 : Int32)), (0, .ref (x.2.2.2 0))]) dX12_tellCaps_1 rfl (by decide) rfl ?_
  exact jw_sub [1, 0] rfl h
set_option maxRecDepth 20000 in
theorem b_X12_tellCaps_2 {x : jX} {d : Nat} {M : jM} {P : jM → Prop} {l1 : Int32} 
    (h : JC x jtbM mX12_cells d [.ref (x.2.2.2 0)] M (jI fun M1 r1 => (r1 ≤ l1 → P M1) ∧ (¬ r1 ≤ l1 → ∃ j1, j1 < 2060 ∧ (3 : Int32) + l1 = nI j1 ∧ (∃ j2, j2 < 25 ∧ l1 = nI j2 ∧ (∀ M2, M2 = jrI M1 9 (upd (M1.1 9) j2 (M1.1 5 j1)) → JW x jtbM mX12_tellCaps (d + 1) (jV P) 26 [(0, .ref (x.2.2.2 0)), (1, .int l1), (2, .int (0 : Int32))] [] M2))))) :
    JW x jtbM mX12_tellCaps (d + 1) (jV P) 2 [(0, .ref (x.2.2.2 0)), (1, .int l1)] [] M := by
  refine jw_iload_n (pc := 2) (j := 1) dX12_tellCaps_2 rfl rfl ?_
  refine jw_aload_n (pc := 3) (j := 0) dX12_tellCaps_3 rfl rfl ?_
  refine jw_callV (pc := 4) (m2 := mX12_cells) (As := []) (st := [.int l1]) dX12_tellCaps_4 sM_0 (by decide) rfl rfl gm_X12_cells ml_X12_305 rfl (Nat.le_of_ble_eq_true rfl) (JC.mono h ?_)
  clear h
  rintro M1 _ ⟨r1, rfl, h⟩
  refine jw_st (st' := [.int r1, .int l1]) rfl ?_
  refine jw_icmp_ge (pc := 7) (tgt := 96) dX12_tellCaps_7 (by decide) (fun c => ?_) (fun c => ?_)
  · replace h := h.1 c
    exact jw_vret (pc := 96) dX12_tellCaps_96 rfl ⟨rfl, h⟩
  · replace h := h.2 c
    refine jw_aload_n (pc := 10) (j := 0) dX12_tellCaps_10 rfl rfl ?_
    refine jw_getR (pc := 11) (r := 9) dX12_tellCaps_11 sM_0 fl_X12_48 (by decide) rfl rfl ?_
    refine jw_iload_n (pc := 14) (j := 1) dX12_tellCaps_14 rfl rfl ?_
    refine jw_aload_n (pc := 15) (j := 0) dX12_tellCaps_15 rfl rfl ?_
    refine jw_getR (pc := 16) (r := 5) dX12_tellCaps_16 sM_0 fl_X12_35 (by decide) rfl rfl ?_
    refine jw_iconst (pc := 19) (v := 3) dX12_tellCaps_19 rfl ?_
    refine jw_iload_n (pc := 20) (j := 1) dX12_tellCaps_20 rfl rfl ?_
    refine jw_iadd (pc := 21) dX12_tellCaps_21 ?_
    obtain ⟨j1, hj1, ej1, h⟩ := h
    refine jw_iald (pc := 22) (j := j1) dX12_tellCaps_22 sM_5 hj1 ej1 (by decide) ?_
    obtain ⟨j2, hj2, ej2, h⟩ := h
    refine jw_iast (pc := 23) (j := j2) dX12_tellCaps_23 sM_9 hj2 ej2 (by decide) ?_
    replace h := h _ rfl
    generalize jrI M1 9 (upd (M1.1 9) j2 (M1.1 5 j1)) = M2 at h ⊢
    refine jw_iconst (pc := 24) (v := 0) dX12_tellCaps_24 rfl ?_
    refine jw_istore_n (pc := 25) (ls' := [(2, .int (0 : Int32)), (0, .ref (x.2.2.2 0)), (1, .int l1)]) dX12_tellCaps_25 rfl (by decide) rfl ?_
    exact jw_sub [1, 2, 0] rfl h
set_option maxRecDepth 20000 in
theorem b_X12_tellCaps_26 {x : jX} {d : Nat} {M : jM} {P : jM → Prop} {l1 : Int32} {l2 : Int32} 
    (h : ((M.1 5 2) ≤ l2 → JW x jtbM mX12_tellCaps (d + 1) (jV P) 2 [(0, .ref (x.2.2.2 0)), (1, .int (l1 + 1))] [] M) ∧ (¬ (M.1 5 2) ≤ l2 → ∃ j1, j1 < 6 ∧ l2 = nI j1 ∧ (((M.1 7 j1) = 0 → JW x jtbM mX12_tellCaps (d + 1) (jV P) 26 [(0, .ref (x.2.2.2 0)), (1, .int l1), (2, .int (l2 + 1))] [] M) ∧ (¬ (M.1 7 j1) = 0 → ∃ j2, j2 < 25 ∧ l1 = nI j2 ∧ (∃ j3, j3 < 2060 ∧ (78 : Int32) + l2 = nI j3 ∧ (JC x jtbM mX12_stripOf d [.ref (x.2.2.2 0), .int (M.1 5 j3), .int l1] M (jI fun M1 r1 => ∃ j4, j4 < 54 ∧ ((9 : Int32) * l2) + r1 = nI j4 ∧ (JC x jtbM mJ9_min_7cf53 d [.int (M.1 9 j2), .int (M1.1 8 j4)] M1 (jI fun M2 r2 => ∀ M3, M3 = jrI M2 9 (upd (M2.1 9) j2 r2) → JW x jtbM mX12_tellCaps (d + 1) (jV P) 26 [(0, .ref (x.2.2.2 0)), (1, .int l1), (2, .int (l2 + 1))] [] M3))))))))) :
    JW x jtbM mX12_tellCaps (d + 1) (jV P) 26 [(0, .ref (x.2.2.2 0)), (1, .int l1), (2, .int l2)] [] M := by
  refine jw_iload_n (pc := 26) (j := 2) dX12_tellCaps_26 rfl rfl ?_
  refine jw_aload_n (pc := 27) (j := 0) dX12_tellCaps_27 rfl rfl ?_
  refine jw_getR (pc := 28) (r := 5) dX12_tellCaps_28 sM_0 fl_X12_35 (by decide) rfl rfl ?_
  refine jw_iconst (pc := 31) (v := 2) dX12_tellCaps_31 rfl ?_
  refine jw_iald (pc := 32) (j := 2) dX12_tellCaps_32 sM_5 (by decide) rfl (by decide) ?_
  refine jw_icmp_ge (pc := 33) (tgt := 90) dX12_tellCaps_33 (by decide) (fun c => ?_) (fun c => ?_)
  · replace h := h.1 c
    refine jw_iinc (pc := 90) (j := 1) (u := l1 + 1) (ls' := [(1, .int (l1 + 1)), (0, .ref (x.2.2.2 0)), (2, .int l2)]) dX12_tellCaps_90 rfl rfl (by decide) rfl ?_
    refine jw_goto (pc := 93) (tgt := 2) dX12_tellCaps_93 (by decide) ?_
    exact jw_sub [1, 0] rfl h
  · replace h := h.2 c
    refine jw_aload_n (pc := 36) (j := 0) dX12_tellCaps_36 rfl rfl ?_
    refine jw_getR (pc := 37) (r := 7) dX12_tellCaps_37 sM_0 fl_X12_41 (by decide) rfl rfl ?_
    refine jw_iload_n (pc := 40) (j := 2) dX12_tellCaps_40 rfl rfl ?_
    obtain ⟨j1, hj1, ej1, h⟩ := h
    refine jw_zald (pc := 41) (j := j1) dX12_tellCaps_41 sM_7 hj1 ej1 (by decide) ?_
    refine jw_if_eq (pc := 42) (tgt := 84) dX12_tellCaps_42 (by decide) (fun c => ?_) (fun c => ?_)
    · replace h := h.1 c
      refine jw_iinc (pc := 84) (j := 2) (u := l2 + 1) (ls' := [(2, .int (l2 + 1)), (0, .ref (x.2.2.2 0)), (1, .int l1)]) dX12_tellCaps_84 rfl rfl (by decide) rfl ?_
      refine jw_goto (pc := 87) (tgt := 26) dX12_tellCaps_87 (by decide) ?_
      exact jw_sub [1, 2, 0] rfl h
    · replace h := h.2 c
      refine jw_aload_n (pc := 45) (j := 0) dX12_tellCaps_45 rfl rfl ?_
      refine jw_getR (pc := 46) (r := 9) dX12_tellCaps_46 sM_0 fl_X12_48 (by decide) rfl rfl ?_
      refine jw_iload_n (pc := 49) (j := 1) dX12_tellCaps_49 rfl rfl ?_
      refine jw_aload_n (pc := 50) (j := 0) dX12_tellCaps_50 rfl rfl ?_
      refine jw_getR (pc := 51) (r := 9) dX12_tellCaps_51 sM_0 fl_X12_48 (by decide) rfl rfl ?_
      refine jw_iload_n (pc := 54) (j := 1) dX12_tellCaps_54 rfl rfl ?_
      obtain ⟨j2, hj2, ej2, h⟩ := h
      refine jw_iald (pc := 55) (j := j2) dX12_tellCaps_55 sM_9 hj2 ej2 (by decide) ?_
      refine jw_aload_n (pc := 56) (j := 0) dX12_tellCaps_56 rfl rfl ?_
      refine jw_getR (pc := 57) (r := 8) dX12_tellCaps_57 sM_0 fl_X12_45 (by decide) rfl rfl ?_
      refine jw_bipush (pc := 60) (v := 9) dX12_tellCaps_60 rfl ?_
      refine jw_iload_n (pc := 62) (j := 2) dX12_tellCaps_62 rfl rfl ?_
      refine jw_imul (pc := 63) dX12_tellCaps_63 ?_
      refine jw_aload_n (pc := 64) (j := 0) dX12_tellCaps_64 rfl rfl ?_
      refine jw_aload_n (pc := 65) (j := 0) dX12_tellCaps_65 rfl rfl ?_
      refine jw_getR (pc := 66) (r := 5) dX12_tellCaps_66 sM_0 fl_X12_35 (by decide) rfl rfl ?_
      refine jw_bipush (pc := 69) (v := 78) dX12_tellCaps_69 rfl ?_
      refine jw_iload_n (pc := 71) (j := 2) dX12_tellCaps_71 rfl rfl ?_
      refine jw_iadd (pc := 72) dX12_tellCaps_72 ?_
      obtain ⟨j3, hj3, ej3, h⟩ := h
      refine jw_iald (pc := 73) (j := j3) dX12_tellCaps_73 sM_5 hj3 ej3 (by decide) ?_
      refine jw_iload_n (pc := 74) (j := 1) dX12_tellCaps_74 rfl rfl ?_
      refine jw_callV (pc := 75) (m2 := mX12_stripOf) (As := [.int (M.1 5 j3), .int l1]) (st := [.int ((9 : Int32) * l2), .ref (x.2.2.2 8), .int (M.1 9 j2), .int l1, .ref (x.2.2.2 9)]) dX12_tellCaps_75 sM_0 (by decide) rfl rfl gm_X12_stripOf ml_X12_327 rfl (Nat.le_of_ble_eq_true rfl) (JC.mono h ?_)
      clear h
      rintro M1 _ ⟨r1, rfl, h⟩
      refine jw_st (st' := [.int r1, .int ((9 : Int32) * l2), .ref (x.2.2.2 8), .int (M.1 9 j2), .int l1, .ref (x.2.2.2 9)]) rfl ?_
      refine jw_iadd (pc := 78) dX12_tellCaps_78 ?_
      obtain ⟨j4, hj4, ej4, h⟩ := h
      refine jw_iald (pc := 79) (j := j4) dX12_tellCaps_79 sM_8 hj4 ej4 (by decide) ?_
      refine jw_callS (pc := 80) (m2 := mJ9_min_7cf53) (As := [.int (M.1 9 j2), .int (M1.1 8 j4)]) (st := [.int l1, .ref (x.2.2.2 9)]) dX12_tellCaps_80 gm_J9_min_7cf53 ml_X12_354 rfl (Nat.le_of_ble_eq_true rfl) (JC.mono h ?_)
      clear h
      rintro M2 _ ⟨r2, rfl, h⟩
      refine jw_st (st' := [.int r2, .int l1, .ref (x.2.2.2 9)]) rfl ?_
      refine jw_iast (pc := 83) (j := j2) dX12_tellCaps_83 sM_9 hj2 ej2 (by decide) ?_
      replace h := h _ rfl
      generalize jrI M2 9 (upd (M2.1 9) j2 r2) = M3 at h ⊢
      refine jw_iinc (pc := 84) (j := 2) (u := l2 + 1) (ls' := [(2, .int (l2 + 1)), (0, .ref (x.2.2.2 0)), (1, .int l1)]) dX12_tellCaps_84 rfl rfl (by decide) rfl ?_
      refine jw_goto (pc := 87) (tgt := 26) dX12_tellCaps_87 (by decide) ?_
      exact jw_sub [1, 2, 0] rfl h
set_option maxRecDepth 20000 in
theorem b_X12_ableIn {x : jX} {d : Nat} {M : jM} {P : jM → Int32 → Prop} {a1 : Int32} {a2 : Int32} 
    (h : JW x jtbM mX12_ableIn (d + 1) (jI P) 5 [(0, .ref (x.2.2.2 0)), (1, .int a1), (2, .int a2), (3, .int (0 : Int32)), (4, .int (0 : Int32))] [] M) :
    JC x jtbM mX12_ableIn (d + 1) [.ref (x.2.2.2 0), .int a1, .int a2] M (jI P) := by
  refine JC.of rfl (Nat.le_of_ble_eq_true rfl) ?_
  refine jw_ls (ls' := [(0, .ref (x.2.2.2 0)), (1, .int a1), (2, .int a2)]) rfl ?_
  refine jw_iconst (pc := 0) (v := 0) dX12_ableIn_0 rfl ?_
  refine jw_istore_n (pc := 1) (ls' := [(3, .int (0 : Int32)), (0, .ref (x.2.2.2 0)), (1, .int a1), (2, .int a2)]) dX12_ableIn_1 rfl (by decide) rfl ?_
  refine jw_iconst (pc := 2) (v := 0) dX12_ableIn_2 rfl ?_
  refine jw_istore (pc := 3) (ls' := [(4, .int (0 : Int32)), (3, .int (0 : Int32)), (0, .ref (x.2.2.2 0)), (1, .int a1), (2, .int a2)]) dX12_ableIn_3 (by decide) rfl ?_
  exact jw_sub [2, 3, 4, 1, 0] rfl h
set_option maxRecDepth 20000 in
theorem b_X12_ableIn_5 {x : jX} {d : Nat} {M : jM} {P : jM → Int32 → Prop} {l1 : Int32} {l2 : Int32} {l3 : Int32} {l4 : Int32} 
    (h : JC x jtbM mX12_cells d [.ref (x.2.2.2 0)] M (jI fun M1 r1 => (r1 ≤ l4 → P M1 l3) ∧ (¬ r1 ≤ l4 → ∃ j1, j1 < 2060 ∧ (78 : Int32) + l1 = nI j1 ∧ (JC x jtbM mX12_stripOf d [.ref (x.2.2.2 0), .int (M1.1 5 j1), .int l4] M1 (jI fun M2 r2 => (¬ r2 = l2 → JW x jtbM mX12_ableIn (d + 1) (jI P) 5 [(0, .ref (x.2.2.2 0)), (1, .int l1), (2, .int l2), (3, .int l3), (4, .int (l4 + 1))] [] M2) ∧ (r2 = l2 → ∃ j2, j2 < 25 ∧ l4 = nI j2 ∧ (∃ j3, j3 < 54 ∧ ((9 : Int32) * l1) + l2 = nI j3 ∧ ((¬ (M2.1 9 j2) = (M2.1 8 j3) → JW x jtbM mX12_ableIn (d + 1) (jI P) 5 [(0, .ref (x.2.2.2 0)), (1, .int l1), (2, .int l2), (3, .int l3), (4, .int (l4 + 1))] [] M2) ∧ ((M2.1 9 j2) = (M2.1 8 j3) → JW x jtbM mX12_ableIn (d + 1) (jI P) 5 [(0, .ref (x.2.2.2 0)), (1, .int l1), (2, .int l2), (3, .int (l3 ||| ((1 : Int32) <<< (l4 &&& 31)))), (4, .int (l4 + 1))] [] M2))))))))) :
    JW x jtbM mX12_ableIn (d + 1) (jI P) 5 [(0, .ref (x.2.2.2 0)), (1, .int l1), (2, .int l2), (3, .int l3), (4, .int l4)] [] M := by
  refine jw_iload (pc := 5) (j := 4) dX12_ableIn_5 rfl ?_
  refine jw_aload_n (pc := 7) (j := 0) dX12_ableIn_7 rfl rfl ?_
  refine jw_callV (pc := 8) (m2 := mX12_cells) (As := []) (st := [.int l4]) dX12_ableIn_8 sM_0 (by decide) rfl rfl gm_X12_cells ml_X12_305 rfl (Nat.le_of_ble_eq_true rfl) (JC.mono h ?_)
  clear h
  rintro M1 _ ⟨r1, rfl, h⟩
  refine jw_st (st' := [.int r1, .int l4]) rfl ?_
  refine jw_icmp_ge (pc := 11) (tgt := 67) dX12_ableIn_11 (by decide) (fun c => ?_) (fun c => ?_)
  · replace h := h.1 c
    refine jw_iload_n (pc := 67) (j := 3) dX12_ableIn_67 rfl rfl ?_
    exact jw_iret (pc := 68) dX12_ableIn_68 rfl ⟨_, rfl, h⟩
  · replace h := h.2 c
    refine jw_aload_n (pc := 14) (j := 0) dX12_ableIn_14 rfl rfl ?_
    refine jw_aload_n (pc := 15) (j := 0) dX12_ableIn_15 rfl rfl ?_
    refine jw_getR (pc := 16) (r := 5) dX12_ableIn_16 sM_0 fl_X12_35 (by decide) rfl rfl ?_
    refine jw_bipush (pc := 19) (v := 78) dX12_ableIn_19 rfl ?_
    refine jw_iload_n (pc := 21) (j := 1) dX12_ableIn_21 rfl rfl ?_
    refine jw_iadd (pc := 22) dX12_ableIn_22 ?_
    obtain ⟨j1, hj1, ej1, h⟩ := h
    refine jw_iald (pc := 23) (j := j1) dX12_ableIn_23 sM_5 hj1 ej1 (by decide) ?_
    refine jw_iload (pc := 24) (j := 4) dX12_ableIn_24 rfl ?_
    refine jw_callV (pc := 26) (m2 := mX12_stripOf) (As := [.int (M1.1 5 j1), .int l4]) (st := []) dX12_ableIn_26 sM_0 (by decide) rfl rfl gm_X12_stripOf ml_X12_327 rfl (Nat.le_of_ble_eq_true rfl) (JC.mono h ?_)
    clear h
    rintro M2 _ ⟨r2, rfl, h⟩
    refine jw_st (st' := [.int r2]) rfl ?_
    refine jw_iload_n (pc := 29) (j := 2) dX12_ableIn_29 rfl rfl ?_
    refine jw_icmp_ne (pc := 30) (tgt := 61) dX12_ableIn_30 (by decide) (fun c => ?_) (fun c => ?_)
    · replace h := h.1 c
      refine jw_iinc (pc := 61) (j := 4) (u := l4 + 1) (ls' := [(4, .int (l4 + 1)), (0, .ref (x.2.2.2 0)), (1, .int l1), (2, .int l2), (3, .int l3)]) dX12_ableIn_61 rfl rfl (by decide) rfl ?_
      refine jw_goto (pc := 64) (tgt := 5) dX12_ableIn_64 (by decide) ?_
      exact jw_sub [1, 2, 3, 4, 0] rfl h
    · replace h := h.2 c
      refine jw_aload_n (pc := 33) (j := 0) dX12_ableIn_33 rfl rfl ?_
      refine jw_getR (pc := 34) (r := 9) dX12_ableIn_34 sM_0 fl_X12_48 (by decide) rfl rfl ?_
      refine jw_iload (pc := 37) (j := 4) dX12_ableIn_37 rfl ?_
      obtain ⟨j2, hj2, ej2, h⟩ := h
      refine jw_iald (pc := 39) (j := j2) dX12_ableIn_39 sM_9 hj2 ej2 (by decide) ?_
      refine jw_aload_n (pc := 40) (j := 0) dX12_ableIn_40 rfl rfl ?_
      refine jw_getR (pc := 41) (r := 8) dX12_ableIn_41 sM_0 fl_X12_45 (by decide) rfl rfl ?_
      refine jw_bipush (pc := 44) (v := 9) dX12_ableIn_44 rfl ?_
      refine jw_iload_n (pc := 46) (j := 1) dX12_ableIn_46 rfl rfl ?_
      refine jw_imul (pc := 47) dX12_ableIn_47 ?_
      refine jw_iload_n (pc := 48) (j := 2) dX12_ableIn_48 rfl rfl ?_
      refine jw_iadd (pc := 49) dX12_ableIn_49 ?_
      obtain ⟨j3, hj3, ej3, h⟩ := h
      refine jw_iald (pc := 50) (j := j3) dX12_ableIn_50 sM_8 hj3 ej3 (by decide) ?_
      refine jw_icmp_ne (pc := 51) (tgt := 61) dX12_ableIn_51 (by decide) (fun c => ?_) (fun c => ?_)
      · replace h := h.1 c
        refine jw_iinc (pc := 61) (j := 4) (u := l4 + 1) (ls' := [(4, .int (l4 + 1)), (0, .ref (x.2.2.2 0)), (1, .int l1), (2, .int l2), (3, .int l3)]) dX12_ableIn_61 rfl rfl (by decide) rfl ?_
        refine jw_goto (pc := 64) (tgt := 5) dX12_ableIn_64 (by decide) ?_
        exact jw_sub [1, 2, 3, 4, 0] rfl h
      · replace h := h.2 c
        refine jw_iload_n (pc := 54) (j := 3) dX12_ableIn_54 rfl rfl ?_
        refine jw_iconst (pc := 55) (v := 1) dX12_ableIn_55 rfl ?_
        refine jw_iload (pc := 56) (j := 4) dX12_ableIn_56 rfl ?_
        refine jw_ishl (pc := 58) dX12_ableIn_58 ?_
        refine jw_ior (pc := 59) dX12_ableIn_59 ?_
        refine jw_istore_n (pc := 60) (ls' := [(3, .int (l3 ||| ((1 : Int32) <<< (l4 &&& 31)))), (0, .ref (x.2.2.2 0)), (1, .int l1), (2, .int l2), (4, .int l4)]) dX12_ableIn_60 rfl (by decide) rfl ?_
        refine jw_iinc (pc := 61) (j := 4) (u := l4 + 1) (ls' := [(4, .int (l4 + 1)), (3, .int (l3 ||| ((1 : Int32) <<< (l4 &&& 31)))), (0, .ref (x.2.2.2 0)), (1, .int l1), (2, .int l2)]) dX12_ableIn_61 rfl rfl (by decide) rfl ?_
        refine jw_goto (pc := 64) (tgt := 5) dX12_ableIn_64 (by decide) ?_
        exact jw_sub [2, 3, 4, 1, 0] rfl h
set_option maxRecDepth 20000 in
theorem b_X12_canKeep {x : jX} {d : Nat} {M : jM} {P : jM → Bool → Prop}  
    (h : ∀ M1, M1 = jrI M 0 (upd (M.1 0) 33 (-1 : Int32)) → ∀ M2, M2 = jrI M1 0 (upd (M1.1 0) 34 (-1 : Int32)) → ∀ M3, M3 = jrI M2 0 (upd (M2.1 0) 35 (-1 : Int32)) → JW x jtbM mX12_canKeep (d + 1) (jZ P) 17 [(0, .ref (x.2.2.2 0)), (1, .int (0 : Int32))] [] M3) :
    JC x jtbM mX12_canKeep (d + 1) [.ref (x.2.2.2 0)] M (jZ P) := by
  refine JC.of rfl (Nat.le_of_ble_eq_true rfl) ?_
  refine jw_ls (ls' := [(0, .ref (x.2.2.2 0))]) rfl ?_
  refine jw_aload_n (pc := 0) (j := 0) dX12_canKeep_0 rfl rfl ?_
  refine jw_iconst (pc := 1) (v := (-1)) dX12_canKeep_1 rfl ?_
  refine jw_putI (pc := 2) dX12_canKeep_2 sM_0 fl_X12_357 fw_12_33 (by decide) rfl ?_
  replace h := h _ rfl
  generalize jrI M 0 (upd (M.1 0) 33 (-1 : Int32)) = M1 at h ⊢
  refine jw_aload_n (pc := 5) (j := 0) dX12_canKeep_5 rfl rfl ?_
  refine jw_iconst (pc := 6) (v := (-1)) dX12_canKeep_6 rfl ?_
  refine jw_putI (pc := 7) dX12_canKeep_7 sM_0 fl_X12_360 fw_12_34 (by decide) rfl ?_
  replace h := h _ rfl
  generalize jrI M1 0 (upd (M1.1 0) 34 (-1 : Int32)) = M2 at h ⊢
  refine jw_aload_n (pc := 10) (j := 0) dX12_canKeep_10 rfl rfl ?_
  refine jw_iconst (pc := 11) (v := (-1)) dX12_canKeep_11 rfl ?_
  refine jw_putI (pc := 12) dX12_canKeep_12 sM_0 fl_X12_363 fw_12_35 (by decide) rfl ?_
  replace h := h _ rfl
  generalize jrI M2 0 (upd (M2.1 0) 35 (-1 : Int32)) = M3 at h ⊢
  refine jw_iconst (pc := 15) (v := 0) dX12_canKeep_15 rfl ?_
  refine jw_istore_n (pc := 16) (ls' := [(1, .int (0 : Int32)), (0, .ref (x.2.2.2 0))]) dX12_canKeep_16 rfl (by decide) rfl ?_
  exact jw_sub [1, 0] rfl h
set_option maxRecDepth 20000 in
theorem b_X12_canKeep_17 {x : jX} {d : Nat} {M : jM} {P : jM → Bool → Prop} {l1 : Int32} 
    (h : JC x jtbM mX12_cells d [.ref (x.2.2.2 0)] M (jI fun M1 r1 => (r1 ≤ l1 → ((M1.1 0 33) < 0 → JW x jtbM mX12_canKeep (d + 1) (jZ P) 72 [(0, .ref (x.2.2.2 0)), (1, .int (0 : Int32))] [] M1) ∧ (¬ (M1.1 0 33) < 0 → P M1 false)) ∧ (¬ r1 ≤ l1 → (0 ≤ (M1.1 0 33) → ((M1.1 0 33) < 0 → JW x jtbM mX12_canKeep (d + 1) (jZ P) 72 [(0, .ref (x.2.2.2 0)), (1, .int (0 : Int32))] [] M1) ∧ (¬ (M1.1 0 33) < 0 → P M1 false)) ∧ (¬ 0 ≤ (M1.1 0 33) → ∃ j1, j1 < 25 ∧ l1 = nI j1 ∧ (∃ j2, j2 < 2060 ∧ (28 : Int32) + l1 = nI j2 ∧ (((M1.1 5 j2) ≤ (M1.1 9 j1) → JW x jtbM mX12_canKeep (d + 1) (jZ P) 17 [(0, .ref (x.2.2.2 0)), (1, .int (l1 + 1))] [] M1) ∧ (¬ (M1.1 5 j2) ≤ (M1.1 9 j1) → ∀ M2, M2 = jrI M1 0 (upd (M1.1 0) 33 l1) → JW x jtbM mX12_canKeep (d + 1) (jZ P) 17 [(0, .ref (x.2.2.2 0)), (1, .int (l1 + 1))] [] M2))))))) :
    JW x jtbM mX12_canKeep (d + 1) (jZ P) 17 [(0, .ref (x.2.2.2 0)), (1, .int l1)] [] M := by
  refine jw_iload_n (pc := 17) (j := 1) dX12_canKeep_17 rfl rfl ?_
  refine jw_aload_n (pc := 18) (j := 0) dX12_canKeep_18 rfl rfl ?_
  refine jw_callV (pc := 19) (m2 := mX12_cells) (As := []) (st := [.int l1]) dX12_canKeep_19 sM_0 (by decide) rfl rfl gm_X12_cells ml_X12_305 rfl (Nat.le_of_ble_eq_true rfl) (JC.mono h ?_)
  clear h
  rintro M1 _ ⟨r1, rfl, h⟩
  refine jw_st (st' := [.int r1, .int l1]) rfl ?_
  refine jw_icmp_ge (pc := 22) (tgt := 61) dX12_canKeep_22 (by decide) (fun c => ?_) (fun c => ?_)
  · replace h := h.1 c
    refine jw_aload_n (pc := 61) (j := 0) dX12_canKeep_61 rfl rfl ?_
    refine jw_getI (pc := 62) dX12_canKeep_62 sM_0 fl_X12_357 (by decide) rfl ?_
    refine jw_if_lt (pc := 65) (tgt := 70) dX12_canKeep_65 (by decide) (fun c => ?_) (fun c => ?_)
    · replace h := h.1 c
      refine jw_iconst (pc := 70) (v := 0) dX12_canKeep_70 rfl ?_
      refine jw_istore_n (pc := 71) (ls' := [(1, .int (0 : Int32)), (0, .ref (x.2.2.2 0))]) dX12_canKeep_71 rfl (by decide) rfl ?_
      exact jw_sub [1, 0] rfl h
    · replace h := h.2 c
      refine jw_iconst (pc := 68) (v := 0) dX12_canKeep_68 rfl ?_
      exact jw_zret (pc := 69) dX12_canKeep_69 rfl (Or.inl rfl) ⟨false, rfl, h⟩
  · replace h := h.2 c
    refine jw_aload_n (pc := 25) (j := 0) dX12_canKeep_25 rfl rfl ?_
    refine jw_getI (pc := 26) dX12_canKeep_26 sM_0 fl_X12_357 (by decide) rfl ?_
    refine jw_if_ge (pc := 29) (tgt := 61) dX12_canKeep_29 (by decide) (fun c => ?_) (fun c => ?_)
    · replace h := h.1 c
      refine jw_aload_n (pc := 61) (j := 0) dX12_canKeep_61 rfl rfl ?_
      refine jw_getI (pc := 62) dX12_canKeep_62 sM_0 fl_X12_357 (by decide) rfl ?_
      refine jw_if_lt (pc := 65) (tgt := 70) dX12_canKeep_65 (by decide) (fun c => ?_) (fun c => ?_)
      · replace h := h.1 c
        refine jw_iconst (pc := 70) (v := 0) dX12_canKeep_70 rfl ?_
        refine jw_istore_n (pc := 71) (ls' := [(1, .int (0 : Int32)), (0, .ref (x.2.2.2 0))]) dX12_canKeep_71 rfl (by decide) rfl ?_
        exact jw_sub [1, 0] rfl h
      · replace h := h.2 c
        refine jw_iconst (pc := 68) (v := 0) dX12_canKeep_68 rfl ?_
        exact jw_zret (pc := 69) dX12_canKeep_69 rfl (Or.inl rfl) ⟨false, rfl, h⟩
    · replace h := h.2 c
      refine jw_aload_n (pc := 32) (j := 0) dX12_canKeep_32 rfl rfl ?_
      refine jw_getR (pc := 33) (r := 9) dX12_canKeep_33 sM_0 fl_X12_48 (by decide) rfl rfl ?_
      refine jw_iload_n (pc := 36) (j := 1) dX12_canKeep_36 rfl rfl ?_
      obtain ⟨j1, hj1, ej1, h⟩ := h
      refine jw_iald (pc := 37) (j := j1) dX12_canKeep_37 sM_9 hj1 ej1 (by decide) ?_
      refine jw_aload_n (pc := 38) (j := 0) dX12_canKeep_38 rfl rfl ?_
      refine jw_getR (pc := 39) (r := 5) dX12_canKeep_39 sM_0 fl_X12_35 (by decide) rfl rfl ?_
      refine jw_bipush (pc := 42) (v := 28) dX12_canKeep_42 rfl ?_
      refine jw_iload_n (pc := 44) (j := 1) dX12_canKeep_44 rfl rfl ?_
      refine jw_iadd (pc := 45) dX12_canKeep_45 ?_
      obtain ⟨j2, hj2, ej2, h⟩ := h
      refine jw_iald (pc := 46) (j := j2) dX12_canKeep_46 sM_5 hj2 ej2 (by decide) ?_
      refine jw_icmp_ge (pc := 47) (tgt := 55) dX12_canKeep_47 (by decide) (fun c => ?_) (fun c => ?_)
      · replace h := h.1 c
        refine jw_iinc (pc := 55) (j := 1) (u := l1 + 1) (ls' := [(1, .int (l1 + 1)), (0, .ref (x.2.2.2 0))]) dX12_canKeep_55 rfl rfl (by decide) rfl ?_
        refine jw_goto (pc := 58) (tgt := 17) dX12_canKeep_58 (by decide) ?_
        exact jw_sub [1, 0] rfl h
      · replace h := h.2 c
        refine jw_aload_n (pc := 50) (j := 0) dX12_canKeep_50 rfl rfl ?_
        refine jw_iload_n (pc := 51) (j := 1) dX12_canKeep_51 rfl rfl ?_
        refine jw_putI (pc := 52) dX12_canKeep_52 sM_0 fl_X12_357 fw_12_33 (by decide) rfl ?_
        replace h := h _ rfl
        generalize jrI M1 0 (upd (M1.1 0) 33 l1) = M2 at h ⊢
        refine jw_iinc (pc := 55) (j := 1) (u := l1 + 1) (ls' := [(1, .int (l1 + 1)), (0, .ref (x.2.2.2 0))]) dX12_canKeep_55 rfl rfl (by decide) rfl ?_
        refine jw_goto (pc := 58) (tgt := 17) dX12_canKeep_58 (by decide) ?_
        exact jw_sub [1, 0] rfl h
set_option maxRecDepth 20000 in
theorem b_X12_canKeep_72 {x : jX} {d : Nat} {M : jM} {P : jM → Bool → Prop} {l1 : Int32} 
    (h : ((M.1 5 2) ≤ l1 → P M true) ∧ (¬ (M.1 5 2) ≤ l1 → JW x jtbM mX12_canKeep (d + 1) (jZ P) 84 [(0, .ref (x.2.2.2 0)), (1, .int l1), (2, .int (0 : Int32))] [] M)) :
    JW x jtbM mX12_canKeep (d + 1) (jZ P) 72 [(0, .ref (x.2.2.2 0)), (1, .int l1)] [] M := by
  refine jw_iload_n (pc := 72) (j := 1) dX12_canKeep_72 rfl rfl ?_
  refine jw_aload_n (pc := 73) (j := 0) dX12_canKeep_73 rfl rfl ?_
  refine jw_getR (pc := 74) (r := 5) dX12_canKeep_74 sM_0 fl_X12_35 (by decide) rfl rfl ?_
  refine jw_iconst (pc := 77) (v := 2) dX12_canKeep_77 rfl ?_
  refine jw_iald (pc := 78) (j := 2) dX12_canKeep_78 sM_5 (by decide) rfl (by decide) ?_
  refine jw_icmp_ge (pc := 79) (tgt := 138) dX12_canKeep_79 (by decide) (fun c => ?_) (fun c => ?_)
  · replace h := h.1 c
    refine jw_iconst (pc := 138) (v := 1) dX12_canKeep_138 rfl ?_
    exact jw_zret (pc := 139) dX12_canKeep_139 rfl (Or.inr rfl) ⟨true, rfl, h⟩
  · replace h := h.2 c
    refine jw_iconst (pc := 82) (v := 0) dX12_canKeep_82 rfl ?_
    refine jw_istore_n (pc := 83) (ls' := [(2, .int (0 : Int32)), (0, .ref (x.2.2.2 0)), (1, .int l1)]) dX12_canKeep_83 rfl (by decide) rfl ?_
    exact jw_sub [1, 2, 0] rfl h
set_option maxRecDepth 20000 in
theorem b_X12_canKeep_84 {x : jX} {d : Nat} {M : jM} {P : jM → Bool → Prop} {l1 : Int32} {l2 : Int32} 
    (h : JC x jtbM mX12_strips d [.ref (x.2.2.2 0), .int l1] M (jI fun M1 r1 => (r1 ≤ l2 → JW x jtbM mX12_canKeep (d + 1) (jZ P) 72 [(0, .ref (x.2.2.2 0)), (1, .int (l1 + 1))] [] M1) ∧ (¬ r1 ≤ l2 → ∃ j1, j1 < 6 ∧ l1 = nI j1 ∧ (((M1.1 7 j1) = 0 → JW x jtbM mX12_canKeep (d + 1) (jZ P) 72 [(0, .ref (x.2.2.2 0)), (1, .int (l1 + 1))] [] M1) ∧ (¬ (M1.1 7 j1) = 0 → JC x jtbM mX12_ableIn d [.ref (x.2.2.2 0), .int l1, .int l2] M1 (jI fun M2 r2 => (r2 = 0 → ∀ M3, M3 = jrI M2 0 (upd (M2.1 0) 34 l1) → ∀ M4, M4 = jrI M3 0 (upd (M3.1 0) 35 l2) → P M4 false) ∧ (¬ r2 = 0 → JW x jtbM mX12_canKeep (d + 1) (jZ P) 84 [(0, .ref (x.2.2.2 0)), (1, .int l1), (2, .int (l2 + 1))] [] M2))))))) :
    JW x jtbM mX12_canKeep (d + 1) (jZ P) 84 [(0, .ref (x.2.2.2 0)), (1, .int l1), (2, .int l2)] [] M := by
  refine jw_iload_n (pc := 84) (j := 2) dX12_canKeep_84 rfl rfl ?_
  refine jw_aload_n (pc := 85) (j := 0) dX12_canKeep_85 rfl rfl ?_
  refine jw_iload_n (pc := 86) (j := 1) dX12_canKeep_86 rfl rfl ?_
  refine jw_callV (pc := 87) (m2 := mX12_strips) (As := [.int l1]) (st := [.int l2]) dX12_canKeep_87 sM_0 (by decide) rfl rfl gm_X12_strips ml_X12_311 rfl (Nat.le_of_ble_eq_true rfl) (JC.mono h ?_)
  clear h
  rintro M1 _ ⟨r1, rfl, h⟩
  refine jw_st (st' := [.int r1, .int l2]) rfl ?_
  refine jw_icmp_ge (pc := 90) (tgt := 132) dX12_canKeep_90 (by decide) (fun c => ?_) (fun c => ?_)
  · replace h := h.1 c
    refine jw_iinc (pc := 132) (j := 1) (u := l1 + 1) (ls' := [(1, .int (l1 + 1)), (0, .ref (x.2.2.2 0)), (2, .int l2)]) dX12_canKeep_132 rfl rfl (by decide) rfl ?_
    refine jw_goto (pc := 135) (tgt := 72) dX12_canKeep_135 (by decide) ?_
    exact jw_sub [1, 0] rfl h
  · replace h := h.2 c
    refine jw_aload_n (pc := 93) (j := 0) dX12_canKeep_93 rfl rfl ?_
    refine jw_getR (pc := 94) (r := 7) dX12_canKeep_94 sM_0 fl_X12_41 (by decide) rfl rfl ?_
    refine jw_iload_n (pc := 97) (j := 1) dX12_canKeep_97 rfl rfl ?_
    obtain ⟨j1, hj1, ej1, h⟩ := h
    refine jw_zald (pc := 98) (j := j1) dX12_canKeep_98 sM_7 hj1 ej1 (by decide) ?_
    refine jw_if_eq (pc := 99) (tgt := 132) dX12_canKeep_99 (by decide) (fun c => ?_) (fun c => ?_)
    · replace h := h.1 c
      refine jw_iinc (pc := 132) (j := 1) (u := l1 + 1) (ls' := [(1, .int (l1 + 1)), (0, .ref (x.2.2.2 0)), (2, .int l2)]) dX12_canKeep_132 rfl rfl (by decide) rfl ?_
      refine jw_goto (pc := 135) (tgt := 72) dX12_canKeep_135 (by decide) ?_
      exact jw_sub [1, 0] rfl h
    · replace h := h.2 c
      refine jw_aload_n (pc := 102) (j := 0) dX12_canKeep_102 rfl rfl ?_
      refine jw_iload_n (pc := 103) (j := 1) dX12_canKeep_103 rfl rfl ?_
      refine jw_iload_n (pc := 104) (j := 2) dX12_canKeep_104 rfl rfl ?_
      refine jw_callV (pc := 105) (m2 := mX12_ableIn) (As := [.int l1, .int l2]) (st := []) dX12_canKeep_105 sM_0 (by decide) rfl rfl gm_X12_ableIn ml_X12_366 rfl (Nat.le_of_ble_eq_true rfl) (JC.mono h ?_)
      clear h
      rintro M2 _ ⟨r2, rfl, h⟩
      refine jw_st (st' := [.int r2]) rfl ?_
      refine jw_if_eq (pc := 108) (tgt := 114) dX12_canKeep_108 (by decide) (fun c => ?_) (fun c => ?_)
      · replace h := h.1 c
        refine jw_aload_n (pc := 114) (j := 0) dX12_canKeep_114 rfl rfl ?_
        refine jw_iload_n (pc := 115) (j := 1) dX12_canKeep_115 rfl rfl ?_
        refine jw_putI (pc := 116) dX12_canKeep_116 sM_0 fl_X12_360 fw_12_34 (by decide) rfl ?_
        replace h := h _ rfl
        generalize jrI M2 0 (upd (M2.1 0) 34 l1) = M3 at h ⊢
        refine jw_aload_n (pc := 119) (j := 0) dX12_canKeep_119 rfl rfl ?_
        refine jw_iload_n (pc := 120) (j := 2) dX12_canKeep_120 rfl rfl ?_
        refine jw_putI (pc := 121) dX12_canKeep_121 sM_0 fl_X12_363 fw_12_35 (by decide) rfl ?_
        replace h := h _ rfl
        generalize jrI M3 0 (upd (M3.1 0) 35 l2) = M4 at h ⊢
        refine jw_iconst (pc := 124) (v := 0) dX12_canKeep_124 rfl ?_
        exact jw_zret (pc := 125) dX12_canKeep_125 rfl (Or.inl rfl) ⟨false, rfl, h⟩
      · replace h := h.2 c
        refine jw_goto (pc := 111) (tgt := 126) dX12_canKeep_111 (by decide) ?_
        refine jw_iinc (pc := 126) (j := 2) (u := l2 + 1) (ls' := [(2, .int (l2 + 1)), (0, .ref (x.2.2.2 0)), (1, .int l1)]) dX12_canKeep_126 rfl rfl (by decide) rfl ?_
        refine jw_goto (pc := 129) (tgt := 84) dX12_canKeep_129 (by decide) ?_
        exact jw_sub [1, 2, 0] rfl h
set_option maxRecDepth 20000 in
theorem b_X12_cap {x : jX} {d : Nat} {M : jM} {P : jM → Int32 → Prop} {a1 : Int32} {a2 : Int32} 
    (h : ∀ M1, M1 = jrI M 0 (upd (M.1 0) 1 (0 : Int32)) → ∀ M2, M2 = jrI M1 0 (upd (M1.1 0) 0 (0 : Int32)) → JC x jtbM mX12_isCell d [.ref (x.2.2.2 0), .int a1] M2 (jZ fun M3 b1 => (b1 = false → JC x jtbM mX12_refuse d [.ref (x.2.2.2 0), .int (2 : Int32)] M3 (jI fun M4 r1 => P M4 r1)) ∧ (b1 = true → JC x jtbM mX12_isSet d [.ref (x.2.2.2 0), .int a2] M3 (jZ fun M5 b2 => (b2 = true → JC x jtbM mX12_ask d [.ref (x.2.2.2 0), .int a2] M5 (jV fun M6 => ∃ j1, j1 < 25 ∧ a1 = nI j1 ∧ (P M6 (M6.1 9 j1)))) ∧ (b2 = false → JC x jtbM mX12_refuse d [.ref (x.2.2.2 0), .int (2 : Int32)] M5 (jI fun M7 r2 => P M7 r2)))))) :
    JC x jtbM mX12_cap (d + 1) [.ref (x.2.2.2 0), .int a1, .int a2] M (jI P) := by
  refine JC.of rfl (Nat.le_of_ble_eq_true rfl) ?_
  refine jw_ls (ls' := [(0, .ref (x.2.2.2 0)), (1, .int a1), (2, .int a2)]) rfl ?_
  refine jw_aload_n (pc := 0) (j := 0) dX12_cap_0 rfl rfl ?_
  refine jw_iconst (pc := 1) (v := 0) dX12_cap_1 rfl ?_
  refine jw_putI (pc := 2) dX12_cap_2 sM_0 fl_X12_81 fw_12_1 (by decide) rfl ?_
  replace h := h _ rfl
  generalize jrI M 0 (upd (M.1 0) 1 (0 : Int32)) = M1 at h ⊢
  refine jw_aload_n (pc := 5) (j := 0) dX12_cap_5 rfl rfl ?_
  refine jw_iconst (pc := 6) (v := 0) dX12_cap_6 rfl ?_
  refine jw_putI (pc := 7) dX12_cap_7 sM_0 fl_X12_84 fw_12_0 (by decide) rfl ?_
  replace h := h _ rfl
  generalize jrI M1 0 (upd (M1.1 0) 0 (0 : Int32)) = M2 at h ⊢
  refine jw_aload_n (pc := 10) (j := 0) dX12_cap_10 rfl rfl ?_
  refine jw_iload_n (pc := 11) (j := 1) dX12_cap_11 rfl rfl ?_
  refine jw_callV (pc := 12) (m2 := mX12_isCell) (As := [.int a1]) (st := []) dX12_cap_12 sM_0 (by decide) rfl rfl gm_X12_isCell ml_X12_319 rfl (Nat.le_of_ble_eq_true rfl) (JC.mono h ?_)
  clear h
  rintro M3 _ ⟨b1, rfl, h⟩
  refine jw_st (st' := [.int (jb b1)]) rfl ?_
  refine jw_if_eq (pc := 15) (tgt := 26) dX12_cap_15 (by decide) (fun c => ?_) (fun c => ?_)
  · replace h := h.1 ((jb_0 _).mp c)
    refine jw_aload_n (pc := 26) (j := 0) dX12_cap_26 rfl rfl ?_
    refine jw_iconst (pc := 27) (v := 2) dX12_cap_27 rfl ?_
    refine jw_callV (pc := 28) (m2 := mX12_refuse) (As := [.int (2 : Int32)]) (st := []) dX12_cap_28 sM_0 (by decide) rfl rfl gm_X12_refuse ml_X12_316 rfl (Nat.le_of_ble_eq_true rfl) (JC.mono h ?_)
    clear h
    rintro M4 _ ⟨r1, rfl, h⟩
    refine jw_st (st' := [.int r1]) rfl ?_
    exact jw_iret (pc := 31) dX12_cap_31 rfl ⟨_, rfl, h⟩
  · replace h := h.2 (jb_ne c)
    refine jw_aload_n (pc := 18) (j := 0) dX12_cap_18 rfl rfl ?_
    refine jw_iload_n (pc := 19) (j := 2) dX12_cap_19 rfl rfl ?_
    refine jw_callV (pc := 20) (m2 := mX12_isSet) (As := [.int a2]) (st := []) dX12_cap_20 sM_0 (by decide) rfl rfl gm_X12_isSet ml_X12_369 rfl (Nat.le_of_ble_eq_true rfl) (JC.mono h ?_)
    clear h
    rintro M5 _ ⟨b2, rfl, h⟩
    refine jw_st (st' := [.int (jb b2)]) rfl ?_
    refine jw_if_ne (pc := 23) (tgt := 32) dX12_cap_23 (by decide) (fun c => ?_) (fun c => ?_)
    · replace h := h.1 (jb_ne c)
      refine jw_aload_n (pc := 32) (j := 0) dX12_cap_32 rfl rfl ?_
      refine jw_iload_n (pc := 33) (j := 2) dX12_cap_33 rfl rfl ?_
      refine jw_callV (pc := 34) (m2 := mX12_ask) (As := [.int a2]) (st := []) dX12_cap_34 sM_0 (by decide) rfl rfl gm_X12_ask ml_X12_372 rfl (Nat.le_of_ble_eq_true rfl) (JC.mono h ?_)
      clear h
      rintro M6 _ ⟨rfl, h⟩
      refine jw_st (st' := []) rfl ?_
      refine jw_aload_n (pc := 37) (j := 0) dX12_cap_37 rfl rfl ?_
      refine jw_getR (pc := 38) (r := 9) dX12_cap_38 sM_0 fl_X12_48 (by decide) rfl rfl ?_
      refine jw_iload_n (pc := 41) (j := 1) dX12_cap_41 rfl rfl ?_
      obtain ⟨j1, hj1, ej1, h⟩ := h
      refine jw_iald (pc := 42) (j := j1) dX12_cap_42 sM_9 hj1 ej1 (by decide) ?_
      exact jw_iret (pc := 43) dX12_cap_43 rfl ⟨_, rfl, h⟩
    · replace h := h.2 ((jb_0 _).mp c)
      refine jw_aload_n (pc := 26) (j := 0) dX12_cap_26 rfl rfl ?_
      refine jw_iconst (pc := 27) (v := 2) dX12_cap_27 rfl ?_
      refine jw_callV (pc := 28) (m2 := mX12_refuse) (As := [.int (2 : Int32)]) (st := []) dX12_cap_28 sM_0 (by decide) rfl rfl gm_X12_refuse ml_X12_316 rfl (Nat.le_of_ble_eq_true rfl) (JC.mono h ?_)
      clear h
      rintro M7 _ ⟨r2, rfl, h⟩
      refine jw_st (st' := [.int r2]) rfl ?_
      exact jw_iret (pc := 31) dX12_cap_31 rfl ⟨_, rfl, h⟩
set_option maxRecDepth 20000 in
theorem b_X12_can {x : jX} {d : Nat} {M : jM} {P : jM → Int32 → Prop} {a1 : Int32} 
    (h : ∀ M1, M1 = jrI M 0 (upd (M.1 0) 1 (0 : Int32)) → ∀ M2, M2 = jrI M1 0 (upd (M1.1 0) 0 (0 : Int32)) → JC x jtbM mX12_isSet d [.ref (x.2.2.2 0), .int a1] M2 (jZ fun M3 b1 => (b1 = true → JC x jtbM mX12_ask d [.ref (x.2.2.2 0), .int a1] M3 (jV fun M4 => JC x jtbM mX12_canKeep d [.ref (x.2.2.2 0)] M4 (jZ fun M5 b2 => (b2 = false → P M5 (0 : Int32)) ∧ (b2 = true → P M5 (1 : Int32))))) ∧ (b1 = false → JC x jtbM mX12_refuse d [.ref (x.2.2.2 0), .int (2 : Int32)] M3 (jI fun M6 r1 => P M6 r1)))) :
    JC x jtbM mX12_can (d + 1) [.ref (x.2.2.2 0), .int a1] M (jI P) := by
  refine JC.of rfl (Nat.le_of_ble_eq_true rfl) ?_
  refine jw_ls (ls' := [(0, .ref (x.2.2.2 0)), (1, .int a1)]) rfl ?_
  refine jw_aload_n (pc := 0) (j := 0) dX12_can_0 rfl rfl ?_
  refine jw_iconst (pc := 1) (v := 0) dX12_can_1 rfl ?_
  refine jw_putI (pc := 2) dX12_can_2 sM_0 fl_X12_81 fw_12_1 (by decide) rfl ?_
  replace h := h _ rfl
  generalize jrI M 0 (upd (M.1 0) 1 (0 : Int32)) = M1 at h ⊢
  refine jw_aload_n (pc := 5) (j := 0) dX12_can_5 rfl rfl ?_
  refine jw_iconst (pc := 6) (v := 0) dX12_can_6 rfl ?_
  refine jw_putI (pc := 7) dX12_can_7 sM_0 fl_X12_84 fw_12_0 (by decide) rfl ?_
  replace h := h _ rfl
  generalize jrI M1 0 (upd (M1.1 0) 0 (0 : Int32)) = M2 at h ⊢
  refine jw_aload_n (pc := 10) (j := 0) dX12_can_10 rfl rfl ?_
  refine jw_iload_n (pc := 11) (j := 1) dX12_can_11 rfl rfl ?_
  refine jw_callV (pc := 12) (m2 := mX12_isSet) (As := [.int a1]) (st := []) dX12_can_12 sM_0 (by decide) rfl rfl gm_X12_isSet ml_X12_369 rfl (Nat.le_of_ble_eq_true rfl) (JC.mono h ?_)
  clear h
  rintro M3 _ ⟨b1, rfl, h⟩
  refine jw_st (st' := [.int (jb b1)]) rfl ?_
  refine jw_if_ne (pc := 15) (tgt := 24) dX12_can_15 (by decide) (fun c => ?_) (fun c => ?_)
  · replace h := h.1 (jb_ne c)
    refine jw_aload_n (pc := 24) (j := 0) dX12_can_24 rfl rfl ?_
    refine jw_iload_n (pc := 25) (j := 1) dX12_can_25 rfl rfl ?_
    refine jw_callV (pc := 26) (m2 := mX12_ask) (As := [.int a1]) (st := []) dX12_can_26 sM_0 (by decide) rfl rfl gm_X12_ask ml_X12_372 rfl (Nat.le_of_ble_eq_true rfl) (JC.mono h ?_)
    clear h
    rintro M4 _ ⟨rfl, h⟩
    refine jw_st (st' := []) rfl ?_
    refine jw_aload_n (pc := 29) (j := 0) dX12_can_29 rfl rfl ?_
    refine jw_callV (pc := 30) (m2 := mX12_canKeep) (As := []) (st := []) dX12_can_30 sM_0 (by decide) rfl rfl gm_X12_canKeep ml_X12_375 rfl (Nat.le_of_ble_eq_true rfl) (JC.mono h ?_)
    clear h
    rintro M5 _ ⟨b2, rfl, h⟩
    refine jw_st (st' := [.int (jb b2)]) rfl ?_
    refine jw_if_eq (pc := 33) (tgt := 40) dX12_can_33 (by decide) (fun c => ?_) (fun c => ?_)
    · replace h := h.1 ((jb_0 _).mp c)
      refine jw_iconst (pc := 40) (v := 0) dX12_can_40 rfl ?_
      exact jw_iret (pc := 41) dX12_can_41 rfl ⟨_, rfl, h⟩
    · replace h := h.2 (jb_ne c)
      refine jw_iconst (pc := 36) (v := 1) dX12_can_36 rfl ?_
      refine jw_goto (pc := 37) (tgt := 41) dX12_can_37 (by decide) ?_
      exact jw_iret (pc := 41) dX12_can_41 rfl ⟨_, rfl, h⟩
  · replace h := h.2 ((jb_0 _).mp c)
    refine jw_aload_n (pc := 18) (j := 0) dX12_can_18 rfl rfl ?_
    refine jw_iconst (pc := 19) (v := 2) dX12_can_19 rfl ?_
    refine jw_callV (pc := 20) (m2 := mX12_refuse) (As := [.int (2 : Int32)]) (st := []) dX12_can_20 sM_0 (by decide) rfl rfl gm_X12_refuse ml_X12_316 rfl (Nat.le_of_ble_eq_true rfl) (JC.mono h ?_)
    clear h
    rintro M6 _ ⟨r1, rfl, h⟩
    refine jw_st (st' := [.int r1]) rfl ?_
    exact jw_iret (pc := 23) dX12_can_23 rfl ⟨_, rfl, h⟩
set_option maxRecDepth 20000 in
theorem b_X12_barred {x : jX} {d : Nat} {M : jM} {P : jM → Int32 → Prop} {a1 : Int32} {a2 : Int32} 
    (h : ∀ M1, M1 = jrI M 0 (upd (M.1 0) 1 (0 : Int32)) → ∀ M2, M2 = jrI M1 0 (upd (M1.1 0) 0 (0 : Int32)) → JC x jtbM mX12_isSet d [.ref (x.2.2.2 0), .int a1] M2 (jZ fun M3 b1 => (b1 = true → JC x jtbM mX12_isIn d [.long a2.toInt64, .long (0 : Int64), .long (2 : Int64)] M3 (jZ fun M4 b2 => (b2 = true → JC x jtbM mX12_ask d [.ref (x.2.2.2 0), .int a1] M4 (jV fun M5 => JC x jtbM mX12_canKeep d [.ref (x.2.2.2 0)] M5 (jZ fun M6 b3 => (b3 = false → (¬ a2 = 0 → (¬ a2 = (1 : Int32) → P M6 (M6.1 0 35)) ∧ (a2 = (1 : Int32) → P M6 (M6.1 0 34))) ∧ (a2 = 0 → P M6 (M6.1 0 33))) ∧ (b3 = true → JC x jtbM mX12_refuse d [.ref (x.2.2.2 0), .int (8 : Int32)] M6 (jI fun M7 r1 => P M7 r1))))) ∧ (b2 = false → JC x jtbM mX12_refuse d [.ref (x.2.2.2 0), .int (5 : Int32)] M4 (jI fun M8 r2 => P M8 r2)))) ∧ (b1 = false → JC x jtbM mX12_refuse d [.ref (x.2.2.2 0), .int (2 : Int32)] M3 (jI fun M9 r3 => P M9 r3)))) :
    JC x jtbM mX12_barred (d + 1) [.ref (x.2.2.2 0), .int a1, .int a2] M (jI P) := by
  refine JC.of rfl (Nat.le_of_ble_eq_true rfl) ?_
  refine jw_ls (ls' := [(0, .ref (x.2.2.2 0)), (1, .int a1), (2, .int a2)]) rfl ?_
  refine jw_aload_n (pc := 0) (j := 0) dX12_barred_0 rfl rfl ?_
  refine jw_iconst (pc := 1) (v := 0) dX12_barred_1 rfl ?_
  refine jw_putI (pc := 2) dX12_barred_2 sM_0 fl_X12_81 fw_12_1 (by decide) rfl ?_
  replace h := h _ rfl
  generalize jrI M 0 (upd (M.1 0) 1 (0 : Int32)) = M1 at h ⊢
  refine jw_aload_n (pc := 5) (j := 0) dX12_barred_5 rfl rfl ?_
  refine jw_iconst (pc := 6) (v := 0) dX12_barred_6 rfl ?_
  refine jw_putI (pc := 7) dX12_barred_7 sM_0 fl_X12_84 fw_12_0 (by decide) rfl ?_
  replace h := h _ rfl
  generalize jrI M1 0 (upd (M1.1 0) 0 (0 : Int32)) = M2 at h ⊢
  refine jw_aload_n (pc := 10) (j := 0) dX12_barred_10 rfl rfl ?_
  refine jw_iload_n (pc := 11) (j := 1) dX12_barred_11 rfl rfl ?_
  refine jw_callV (pc := 12) (m2 := mX12_isSet) (As := [.int a1]) (st := []) dX12_barred_12 sM_0 (by decide) rfl rfl gm_X12_isSet ml_X12_369 rfl (Nat.le_of_ble_eq_true rfl) (JC.mono h ?_)
  clear h
  rintro M3 _ ⟨b1, rfl, h⟩
  refine jw_st (st' := [.int (jb b1)]) rfl ?_
  refine jw_if_ne (pc := 15) (tgt := 24) dX12_barred_15 (by decide) (fun c => ?_) (fun c => ?_)
  · replace h := h.1 (jb_ne c)
    refine jw_iload_n (pc := 24) (j := 2) dX12_barred_24 rfl rfl ?_
    refine jw_i2l (pc := 25) dX12_barred_25 ?_
    refine jw_lconst (pc := 26) (v := 0) dX12_barred_26 rfl ?_
    refine jw_ldc2 (pc := 27) (v := 2) dX12_barred_27 kl_X12_314 ?_
    refine jw_callS (pc := 30) (m2 := mX12_isIn) (As := [.long a2.toInt64, .long (0 : Int64), .long (2 : Int64)]) (st := []) dX12_barred_30 gm_X12_isIn ml_X12_116 rfl (Nat.le_of_ble_eq_true rfl) (JC.mono h ?_)
    clear h
    rintro M4 _ ⟨b2, rfl, h⟩
    refine jw_st (st' := [.int (jb b2)]) rfl ?_
    refine jw_if_ne (pc := 33) (tgt := 42) dX12_barred_33 (by decide) (fun c => ?_) (fun c => ?_)
    · replace h := h.1 (jb_ne c)
      refine jw_aload_n (pc := 42) (j := 0) dX12_barred_42 rfl rfl ?_
      refine jw_iload_n (pc := 43) (j := 1) dX12_barred_43 rfl rfl ?_
      refine jw_callV (pc := 44) (m2 := mX12_ask) (As := [.int a1]) (st := []) dX12_barred_44 sM_0 (by decide) rfl rfl gm_X12_ask ml_X12_372 rfl (Nat.le_of_ble_eq_true rfl) (JC.mono h ?_)
      clear h
      rintro M5 _ ⟨rfl, h⟩
      refine jw_st (st' := []) rfl ?_
      refine jw_aload_n (pc := 47) (j := 0) dX12_barred_47 rfl rfl ?_
      refine jw_callV (pc := 48) (m2 := mX12_canKeep) (As := []) (st := []) dX12_barred_48 sM_0 (by decide) rfl rfl gm_X12_canKeep ml_X12_375 rfl (Nat.le_of_ble_eq_true rfl) (JC.mono h ?_)
      clear h
      rintro M6 _ ⟨b3, rfl, h⟩
      refine jw_st (st' := [.int (jb b3)]) rfl ?_
      refine jw_if_eq (pc := 51) (tgt := 61) dX12_barred_51 (by decide) (fun c => ?_) (fun c => ?_)
      · replace h := h.1 ((jb_0 _).mp c)
        refine jw_iload_n (pc := 61) (j := 2) dX12_barred_61 rfl rfl ?_
        refine jw_if_ne (pc := 62) (tgt := 72) dX12_barred_62 (by decide) (fun c => ?_) (fun c => ?_)
        · replace h := h.1 c
          refine jw_iload_n (pc := 72) (j := 2) dX12_barred_72 rfl rfl ?_
          refine jw_iconst (pc := 73) (v := 1) dX12_barred_73 rfl ?_
          refine jw_icmp_ne (pc := 74) (tgt := 84) dX12_barred_74 (by decide) (fun c => ?_) (fun c => ?_)
          · replace h := h.1 c
            refine jw_aload_n (pc := 84) (j := 0) dX12_barred_84 rfl rfl ?_
            refine jw_getI (pc := 85) dX12_barred_85 sM_0 fl_X12_363 (by decide) rfl ?_
            exact jw_iret (pc := 88) dX12_barred_88 rfl ⟨_, rfl, h⟩
          · replace h := h.2 c
            refine jw_aload_n (pc := 77) (j := 0) dX12_barred_77 rfl rfl ?_
            refine jw_getI (pc := 78) dX12_barred_78 sM_0 fl_X12_360 (by decide) rfl ?_
            refine jw_goto (pc := 81) (tgt := 88) dX12_barred_81 (by decide) ?_
            exact jw_iret (pc := 88) dX12_barred_88 rfl ⟨_, rfl, h⟩
        · replace h := h.2 c
          refine jw_aload_n (pc := 65) (j := 0) dX12_barred_65 rfl rfl ?_
          refine jw_getI (pc := 66) dX12_barred_66 sM_0 fl_X12_357 (by decide) rfl ?_
          refine jw_goto (pc := 69) (tgt := 88) dX12_barred_69 (by decide) ?_
          exact jw_iret (pc := 88) dX12_barred_88 rfl ⟨_, rfl, h⟩
      · replace h := h.2 (jb_ne c)
        refine jw_aload_n (pc := 54) (j := 0) dX12_barred_54 rfl rfl ?_
        refine jw_bipush (pc := 55) (v := 8) dX12_barred_55 rfl ?_
        refine jw_callV (pc := 57) (m2 := mX12_refuse) (As := [.int (8 : Int32)]) (st := []) dX12_barred_57 sM_0 (by decide) rfl rfl gm_X12_refuse ml_X12_316 rfl (Nat.le_of_ble_eq_true rfl) (JC.mono h ?_)
        clear h
        rintro M7 _ ⟨r1, rfl, h⟩
        refine jw_st (st' := [.int r1]) rfl ?_
        exact jw_iret (pc := 60) dX12_barred_60 rfl ⟨_, rfl, h⟩
    · replace h := h.2 ((jb_0 _).mp c)
      refine jw_aload_n (pc := 36) (j := 0) dX12_barred_36 rfl rfl ?_
      refine jw_iconst (pc := 37) (v := 5) dX12_barred_37 rfl ?_
      refine jw_callV (pc := 38) (m2 := mX12_refuse) (As := [.int (5 : Int32)]) (st := []) dX12_barred_38 sM_0 (by decide) rfl rfl gm_X12_refuse ml_X12_316 rfl (Nat.le_of_ble_eq_true rfl) (JC.mono h ?_)
      clear h
      rintro M8 _ ⟨r2, rfl, h⟩
      refine jw_st (st' := [.int r2]) rfl ?_
      exact jw_iret (pc := 41) dX12_barred_41 rfl ⟨_, rfl, h⟩
  · replace h := h.2 ((jb_0 _).mp c)
    refine jw_aload_n (pc := 18) (j := 0) dX12_barred_18 rfl rfl ?_
    refine jw_iconst (pc := 19) (v := 2) dX12_barred_19 rfl ?_
    refine jw_callV (pc := 20) (m2 := mX12_refuse) (As := [.int (2 : Int32)]) (st := []) dX12_barred_20 sM_0 (by decide) rfl rfl gm_X12_refuse ml_X12_316 rfl (Nat.le_of_ble_eq_true rfl) (JC.mono h ?_)
    clear h
    rintro M9 _ ⟨r3, rfl, h⟩
    refine jw_st (st' := [.int r3]) rfl ?_
    exact jw_iret (pc := 23) dX12_barred_23 rfl ⟨_, rfl, h⟩
set_option maxRecDepth 20000 in
theorem b_X12_largest {x : jX} {d : Nat} {M : jM} {P : jM → Int32 → Prop} {a1 : Int32} 
    (h : ∀ M1, M1 = jrI M 0 (upd (M.1 0) 1 (0 : Int32)) → ∀ M2, M2 = jrI M1 0 (upd (M1.1 0) 0 (0 : Int32)) → JC x jtbM mX12_isSet d [.ref (x.2.2.2 0), .int a1] M2 (jZ fun M3 b1 => (b1 = true → JC x jtbM mX12_ask d [.ref (x.2.2.2 0), .int a1] M3 (jV fun M4 => JC x jtbM mX12_canKeep d [.ref (x.2.2.2 0)] M4 (jZ fun M5 b2 => (b2 = true → JW x jtbM mX12_largest (d + 1) (jI P) 45 [(0, .ref (x.2.2.2 0)), (2, .int (0 : Int32))] [] M5) ∧ (b2 = false → JC x jtbM mX12_refuse d [.ref (x.2.2.2 0), .int (9 : Int32)] M5 (jI fun M6 r1 => P M6 r1))))) ∧ (b1 = false → JC x jtbM mX12_refuse d [.ref (x.2.2.2 0), .int (2 : Int32)] M3 (jI fun M7 r2 => P M7 r2)))) :
    JC x jtbM mX12_largest (d + 1) [.ref (x.2.2.2 0), .int a1] M (jI P) := by
  refine JC.of rfl (Nat.le_of_ble_eq_true rfl) ?_
  refine jw_ls (ls' := [(0, .ref (x.2.2.2 0)), (1, .int a1)]) rfl ?_
  refine jw_aload_n (pc := 0) (j := 0) dX12_largest_0 rfl rfl ?_
  refine jw_iconst (pc := 1) (v := 0) dX12_largest_1 rfl ?_
  refine jw_putI (pc := 2) dX12_largest_2 sM_0 fl_X12_81 fw_12_1 (by decide) rfl ?_
  replace h := h _ rfl
  generalize jrI M 0 (upd (M.1 0) 1 (0 : Int32)) = M1 at h ⊢
  refine jw_aload_n (pc := 5) (j := 0) dX12_largest_5 rfl rfl ?_
  refine jw_iconst (pc := 6) (v := 0) dX12_largest_6 rfl ?_
  refine jw_putI (pc := 7) dX12_largest_7 sM_0 fl_X12_84 fw_12_0 (by decide) rfl ?_
  replace h := h _ rfl
  generalize jrI M1 0 (upd (M1.1 0) 0 (0 : Int32)) = M2 at h ⊢
  refine jw_aload_n (pc := 10) (j := 0) dX12_largest_10 rfl rfl ?_
  refine jw_iload_n (pc := 11) (j := 1) dX12_largest_11 rfl rfl ?_
  refine jw_callV (pc := 12) (m2 := mX12_isSet) (As := [.int a1]) (st := []) dX12_largest_12 sM_0 (by decide) rfl rfl gm_X12_isSet ml_X12_369 rfl (Nat.le_of_ble_eq_true rfl) (JC.mono h ?_)
  clear h
  rintro M3 _ ⟨b1, rfl, h⟩
  refine jw_st (st' := [.int (jb b1)]) rfl ?_
  refine jw_if_ne (pc := 15) (tgt := 24) dX12_largest_15 (by decide) (fun c => ?_) (fun c => ?_)
  · replace h := h.1 (jb_ne c)
    refine jw_aload_n (pc := 24) (j := 0) dX12_largest_24 rfl rfl ?_
    refine jw_iload_n (pc := 25) (j := 1) dX12_largest_25 rfl rfl ?_
    refine jw_callV (pc := 26) (m2 := mX12_ask) (As := [.int a1]) (st := []) dX12_largest_26 sM_0 (by decide) rfl rfl gm_X12_ask ml_X12_372 rfl (Nat.le_of_ble_eq_true rfl) (JC.mono h ?_)
    clear h
    rintro M4 _ ⟨rfl, h⟩
    refine jw_st (st' := []) rfl ?_
    refine jw_aload_n (pc := 29) (j := 0) dX12_largest_29 rfl rfl ?_
    refine jw_callV (pc := 30) (m2 := mX12_canKeep) (As := []) (st := []) dX12_largest_30 sM_0 (by decide) rfl rfl gm_X12_canKeep ml_X12_375 rfl (Nat.le_of_ble_eq_true rfl) (JC.mono h ?_)
    clear h
    rintro M5 _ ⟨b2, rfl, h⟩
    refine jw_st (st' := [.int (jb b2)]) rfl ?_
    refine jw_if_ne (pc := 33) (tgt := 43) dX12_largest_33 (by decide) (fun c => ?_) (fun c => ?_)
    · replace h := h.1 (jb_ne c)
      refine jw_iconst (pc := 43) (v := 0) dX12_largest_43 rfl ?_
      refine jw_istore_n (pc := 44) (ls' := [(2, .int (0 : Int32)), (0, .ref (x.2.2.2 0)), (1, .int a1)]) dX12_largest_44 rfl (by decide) rfl ?_
      exact jw_sub [1, 0] rfl h
    · replace h := h.2 ((jb_0 _).mp c)
      refine jw_aload_n (pc := 36) (j := 0) dX12_largest_36 rfl rfl ?_
      refine jw_bipush (pc := 37) (v := 9) dX12_largest_37 rfl ?_
      refine jw_callV (pc := 39) (m2 := mX12_refuse) (As := [.int (9 : Int32)]) (st := []) dX12_largest_39 sM_0 (by decide) rfl rfl gm_X12_refuse ml_X12_316 rfl (Nat.le_of_ble_eq_true rfl) (JC.mono h ?_)
      clear h
      rintro M6 _ ⟨r1, rfl, h⟩
      refine jw_st (st' := [.int r1]) rfl ?_
      exact jw_iret (pc := 42) dX12_largest_42 rfl ⟨_, rfl, h⟩
  · replace h := h.2 ((jb_0 _).mp c)
    refine jw_aload_n (pc := 18) (j := 0) dX12_largest_18 rfl rfl ?_
    refine jw_iconst (pc := 19) (v := 2) dX12_largest_19 rfl ?_
    refine jw_callV (pc := 20) (m2 := mX12_refuse) (As := [.int (2 : Int32)]) (st := []) dX12_largest_20 sM_0 (by decide) rfl rfl gm_X12_refuse ml_X12_316 rfl (Nat.le_of_ble_eq_true rfl) (JC.mono h ?_)
    clear h
    rintro M7 _ ⟨r2, rfl, h⟩
    refine jw_st (st' := [.int r2]) rfl ?_
    exact jw_iret (pc := 23) dX12_largest_23 rfl ⟨_, rfl, h⟩
set_option maxRecDepth 20000 in
theorem b_X12_largest_45 {x : jX} {d : Nat} {M : jM} {P : jM → Int32 → Prop} {l2 : Int32} 
    (h : JC x jtbM mX12_cells d [.ref (x.2.2.2 0)] M (jI fun M1 r1 => (r1 ≤ l2 → JC x jtbM mX12_stoneNow d [.ref (x.2.2.2 0)] M1 (jI fun M2 r2 => P M2 r2)) ∧ (¬ r1 ≤ l2 → ∃ j1, j1 < 25 ∧ l2 = nI j1 ∧ (∃ j2, j2 < 2060 ∧ (144 : Int32) + l2 = nI j2 ∧ (∀ M3, M3 = jrI M1 5 (upd (M1.1 5) j2 (M1.1 9 j1)) → JW x jtbM mX12_largest (d + 1) (jI P) 45 [(0, .ref (x.2.2.2 0)), (2, .int (l2 + 1))] [] M3))))) :
    JW x jtbM mX12_largest (d + 1) (jI P) 45 [(0, .ref (x.2.2.2 0)), (2, .int l2)] [] M := by
  refine jw_iload_n (pc := 45) (j := 1) dX12_largest_45 rfl rfl ?_
  refine jw_aload_n (pc := 46) (j := 0) dX12_largest_46 rfl rfl ?_
  refine jw_callV (pc := 47) (m2 := mX12_cells) (As := []) (st := [.int l2]) dX12_largest_47 sM_0 (by decide) rfl rfl gm_X12_cells ml_X12_305 rfl (Nat.le_of_ble_eq_true rfl) (JC.mono h ?_)
  clear h
  rintro M1 _ ⟨r1, rfl, h⟩
  refine jw_st (st' := [.int r1, .int l2]) rfl ?_
  refine jw_icmp_ge (pc := 50) (tgt := 75) dX12_largest_50 (by decide) (fun c => ?_) (fun c => ?_)
  · replace h := h.1 c
    refine jw_aload_n (pc := 75) (j := 0) dX12_largest_75 rfl rfl ?_
    refine jw_callV (pc := 76) (m2 := mX12_stoneNow) (As := []) (st := []) dX12_largest_76 sM_0 (by decide) rfl rfl gm_X12_stoneNow ml_X12_348 rfl (Nat.le_of_ble_eq_true rfl) (JC.mono h ?_)
    clear h
    rintro M2 _ ⟨r2, rfl, h⟩
    refine jw_st (st' := [.int r2]) rfl ?_
    exact jw_iret (pc := 79) dX12_largest_79 rfl ⟨_, rfl, h⟩
  · replace h := h.2 c
    refine jw_aload_n (pc := 53) (j := 0) dX12_largest_53 rfl rfl ?_
    refine jw_getR (pc := 54) (r := 5) dX12_largest_54 sM_0 fl_X12_35 (by decide) rfl rfl ?_
    refine jw_sipush (pc := 57) (v := 144) dX12_largest_57 rfl ?_
    refine jw_iload_n (pc := 60) (j := 1) dX12_largest_60 rfl rfl ?_
    refine jw_iadd (pc := 61) dX12_largest_61 ?_
    refine jw_aload_n (pc := 62) (j := 0) dX12_largest_62 rfl rfl ?_
    refine jw_getR (pc := 63) (r := 9) dX12_largest_63 sM_0 fl_X12_48 (by decide) rfl rfl ?_
    refine jw_iload_n (pc := 66) (j := 1) dX12_largest_66 rfl rfl ?_
    obtain ⟨j1, hj1, ej1, h⟩ := h
    refine jw_iald (pc := 67) (j := j1) dX12_largest_67 sM_9 hj1 ej1 (by decide) ?_
    obtain ⟨j2, hj2, ej2, h⟩ := h
    refine jw_iast (pc := 68) (j := j2) dX12_largest_68 sM_5 hj2 ej2 (by decide) ?_
    replace h := h _ rfl
    generalize jrI M1 5 (upd (M1.1 5) j2 (M1.1 9 j1)) = M3 at h ⊢
    refine jw_iinc (pc := 69) (j := 1) (u := l2 + 1) (ls' := [(2, .int (l2 + 1)), (0, .ref (x.2.2.2 0))]) dX12_largest_69 rfl rfl (by decide) rfl ?_
    refine jw_goto (pc := 72) (tgt := 45) dX12_largest_72 (by decide) ?_
    exact jw_sub [1, 0] rfl h
set_option maxRecDepth 20000 in
theorem b_X12_has {x : jX} {d : Nat} {M : jM} {P : jM → Bool → Prop} {a1 : Int32} {a2 : Int32} 
    (h : (¬ ((a1 >>> (a2 &&& 31)) &&& (1 : Int32)) = (1 : Int32) → P M false) ∧ (((a1 >>> (a2 &&& 31)) &&& (1 : Int32)) = (1 : Int32) → P M true)) :
    JC x jtbM mX12_has d [.ref (x.2.2.2 0), .int a1, .int a2] M (jZ P) := by
  refine JC.of rfl (Nat.le_of_ble_eq_true rfl) ?_
  refine jw_ls (ls' := [(0, .ref (x.2.2.2 0)), (1, .int a1), (2, .int a2)]) rfl ?_
  refine jw_iload_n (pc := 0) (j := 1) dX12_has_0 rfl rfl ?_
  refine jw_iload_n (pc := 1) (j := 2) dX12_has_1 rfl rfl ?_
  refine jw_ishr (pc := 2) dX12_has_2 ?_
  refine jw_iconst (pc := 3) (v := 1) dX12_has_3 rfl ?_
  refine jw_iand (pc := 4) dX12_has_4 ?_
  refine jw_iconst (pc := 5) (v := 1) dX12_has_5 rfl ?_
  refine jw_icmp_ne (pc := 6) (tgt := 13) dX12_has_6 (by decide) (fun c => ?_) (fun c => ?_)
  · replace h := h.1 c
    refine jw_iconst (pc := 13) (v := 0) dX12_has_13 rfl ?_
    exact jw_zret (pc := 14) dX12_has_14 rfl (Or.inl rfl) ⟨false, rfl, h⟩
  · replace h := h.2 c
    refine jw_iconst (pc := 9) (v := 1) dX12_has_9 rfl ?_
    refine jw_goto (pc := 10) (tgt := 14) dX12_has_10 (by decide) ?_
    exact jw_zret (pc := 14) dX12_has_14 rfl (Or.inr rfl) ⟨true, rfl, h⟩
set_option maxRecDepth 20000 in
theorem b_X12_findCovers {x : jX} {d : Nat} {M : jM} {P : jM → Prop}  
    (h : ∀ M1, M1 = jrI M 0 (upd (M.1 0) 31 (0 : Int32)) → JW x jtbM mX12_findCovers (d + 1) (jV P) 7 [(0, .ref (x.2.2.2 0)), (1, .int (0 : Int32))] [] M1) :
    JC x jtbM mX12_findCovers (d + 1) [.ref (x.2.2.2 0)] M (jV P) := by
  refine JC.of rfl (Nat.le_of_ble_eq_true rfl) ?_
  refine jw_ls (ls' := [(0, .ref (x.2.2.2 0))]) rfl ?_
  refine jw_aload_n (pc := 0) (j := 0) dX12_findCovers_0 rfl rfl ?_
  refine jw_iconst (pc := 1) (v := 0) dX12_findCovers_1 rfl ?_
  refine jw_putI (pc := 2) dX12_findCovers_2 sM_0 fl_X12_378 fw_12_31 (by decide) rfl ?_
  replace h := h _ rfl
  generalize jrI M 0 (upd (M.1 0) 31 (0 : Int32)) = M1 at h ⊢
  refine jw_iconst (pc := 5) (v := 0) dX12_findCovers_5 rfl ?_
  refine jw_istore_n (pc := 6) (ls' := [(1, .int (0 : Int32)), (0, .ref (x.2.2.2 0))]) dX12_findCovers_6 rfl (by decide) rfl ?_
  exact jw_sub [1, 0] rfl h
set_option maxRecDepth 20000 in
theorem b_X12_findCovers_7 {x : jX} {d : Nat} {M : jM} {P : jM → Prop} {l1 : Int32} 
    (h : ((M.1 5 2) ≤ l1 → P M) ∧ (¬ (M.1 5 2) ≤ l1 → JW x jtbM mX12_findCovers (d + 1) (jV P) 19 [(0, .ref (x.2.2.2 0)), (1, .int l1), (2, .int (0 : Int32))] [] M)) :
    JW x jtbM mX12_findCovers (d + 1) (jV P) 7 [(0, .ref (x.2.2.2 0)), (1, .int l1)] [] M := by
  refine jw_iload_n (pc := 7) (j := 1) dX12_findCovers_7 rfl rfl ?_
  refine jw_aload_n (pc := 8) (j := 0) dX12_findCovers_8 rfl rfl ?_
  refine jw_getR (pc := 9) (r := 5) dX12_findCovers_9 sM_0 fl_X12_35 (by decide) rfl rfl ?_
  refine jw_iconst (pc := 12) (v := 2) dX12_findCovers_12 rfl ?_
  refine jw_iald (pc := 13) (j := 2) dX12_findCovers_13 sM_5 (by decide) rfl (by decide) ?_
  refine jw_icmp_ge (pc := 14) (tgt := 147) dX12_findCovers_14 (by decide) (fun c => ?_) (fun c => ?_)
  · replace h := h.1 c
    exact jw_vret (pc := 147) dX12_findCovers_147 rfl ⟨rfl, h⟩
  · replace h := h.2 c
    refine jw_iconst (pc := 17) (v := 0) dX12_findCovers_17 rfl ?_
    refine jw_istore_n (pc := 18) (ls' := [(2, .int (0 : Int32)), (0, .ref (x.2.2.2 0)), (1, .int l1)]) dX12_findCovers_18 rfl (by decide) rfl ?_
    exact jw_sub [1, 2, 0] rfl h
set_option maxRecDepth 20000 in
theorem b_X12_findCovers_19 {x : jX} {d : Nat} {M : jM} {P : jM → Prop} {l1 : Int32} {l2 : Int32} 
    (h : JC x jtbM mX12_strips d [.ref (x.2.2.2 0), .int l1] M (jI fun M1 r1 => (r1 ≤ l2 → JW x jtbM mX12_findCovers (d + 1) (jV P) 7 [(0, .ref (x.2.2.2 0)), (1, .int (l1 + 1))] [] M1) ∧ (¬ r1 ≤ l2 → ∃ j1, j1 < 6 ∧ l1 = nI j1 ∧ (((M1.1 7 j1) = 0 → JW x jtbM mX12_findCovers (d + 1) (jV P) 7 [(0, .ref (x.2.2.2 0)), (1, .int (l1 + 1))] [] M1) ∧ (¬ (M1.1 7 j1) = 0 → JC x jtbM mX12_ableIn d [.ref (x.2.2.2 0), .int l1, .int l2] M1 (jI fun M2 r2 => JW x jtbM mX12_findCovers (d + 1) (jV P) 50 [(0, .ref (x.2.2.2 0)), (1, .int l1), (2, .int l2), (3, .int r2), (4, .int (0 : Int32)), (5, .int (0 : Int32))] [] M2)))))) :
    JW x jtbM mX12_findCovers (d + 1) (jV P) 19 [(0, .ref (x.2.2.2 0)), (1, .int l1), (2, .int l2)] [] M := by
  refine jw_iload_n (pc := 19) (j := 2) dX12_findCovers_19 rfl rfl ?_
  refine jw_aload_n (pc := 20) (j := 0) dX12_findCovers_20 rfl rfl ?_
  refine jw_iload_n (pc := 21) (j := 1) dX12_findCovers_21 rfl rfl ?_
  refine jw_callV (pc := 22) (m2 := mX12_strips) (As := [.int l1]) (st := [.int l2]) dX12_findCovers_22 sM_0 (by decide) rfl rfl gm_X12_strips ml_X12_311 rfl (Nat.le_of_ble_eq_true rfl) (JC.mono h ?_)
  clear h
  rintro M1 _ ⟨r1, rfl, h⟩
  refine jw_st (st' := [.int r1, .int l2]) rfl ?_
  refine jw_icmp_ge (pc := 25) (tgt := 141) dX12_findCovers_25 (by decide) (fun c => ?_) (fun c => ?_)
  · replace h := h.1 c
    refine jw_iinc (pc := 141) (j := 1) (u := l1 + 1) (ls' := [(1, .int (l1 + 1)), (0, .ref (x.2.2.2 0)), (2, .int l2)]) dX12_findCovers_141 rfl rfl (by decide) rfl ?_
    refine jw_goto (pc := 144) (tgt := 7) dX12_findCovers_144 (by decide) ?_
    exact jw_sub [1, 0] rfl h
  · replace h := h.2 c
    refine jw_aload_n (pc := 28) (j := 0) dX12_findCovers_28 rfl rfl ?_
    refine jw_getR (pc := 29) (r := 7) dX12_findCovers_29 sM_0 fl_X12_41 (by decide) rfl rfl ?_
    refine jw_iload_n (pc := 32) (j := 1) dX12_findCovers_32 rfl rfl ?_
    obtain ⟨j1, hj1, ej1, h⟩ := h
    refine jw_zald (pc := 33) (j := j1) dX12_findCovers_33 sM_7 hj1 ej1 (by decide) ?_
    refine jw_if_eq (pc := 34) (tgt := 141) dX12_findCovers_34 (by decide) (fun c => ?_) (fun c => ?_)
    · replace h := h.1 c
      refine jw_iinc (pc := 141) (j := 1) (u := l1 + 1) (ls' := [(1, .int (l1 + 1)), (0, .ref (x.2.2.2 0)), (2, .int l2)]) dX12_findCovers_141 rfl rfl (by decide) rfl ?_
      refine jw_goto (pc := 144) (tgt := 7) dX12_findCovers_144 (by decide) ?_
      exact jw_sub [1, 0] rfl h
    · replace h := h.2 c
      refine jw_aload_n (pc := 37) (j := 0) dX12_findCovers_37 rfl rfl ?_
      refine jw_iload_n (pc := 38) (j := 1) dX12_findCovers_38 rfl rfl ?_
      refine jw_iload_n (pc := 39) (j := 2) dX12_findCovers_39 rfl rfl ?_
      refine jw_callV (pc := 40) (m2 := mX12_ableIn) (As := [.int l1, .int l2]) (st := []) dX12_findCovers_40 sM_0 (by decide) rfl rfl gm_X12_ableIn ml_X12_366 rfl (Nat.le_of_ble_eq_true rfl) (JC.mono h ?_)
      clear h
      rintro M2 _ ⟨r2, rfl, h⟩
      refine jw_st (st' := [.int r2]) rfl ?_
      refine jw_istore_n (pc := 43) (ls' := [(3, .int r2), (0, .ref (x.2.2.2 0)), (1, .int l1), (2, .int l2)]) dX12_findCovers_43 rfl (by decide) rfl ?_
      refine jw_iconst (pc := 44) (v := 0) dX12_findCovers_44 rfl ?_
      refine jw_istore (pc := 45) (ls' := [(4, .int (0 : Int32)), (3, .int r2), (0, .ref (x.2.2.2 0)), (1, .int l1), (2, .int l2)]) dX12_findCovers_45 (by decide) rfl ?_
      refine jw_iconst (pc := 47) (v := 0) dX12_findCovers_47 rfl ?_
      refine jw_istore (pc := 48) (ls' := [(5, .int (0 : Int32)), (4, .int (0 : Int32)), (3, .int r2), (0, .ref (x.2.2.2 0)), (1, .int l1), (2, .int l2)]) dX12_findCovers_48 (by decide) rfl ?_
      exact jw_sub [3, 4, 5, 2, 1, 0] rfl h
set_option maxRecDepth 20000 in
theorem b_X12_findCovers_50 {x : jX} {d : Nat} {M : jM} {P : jM → Prop} {l1 : Int32} {l2 : Int32} {l3 : Int32} {l4 : Int32} {l5 : Int32} 
    (h : JC x jtbM mX12_cells d [.ref (x.2.2.2 0)] M (jI fun M1 r1 => (r1 ≤ l5 → (l4 = 0 → ∃ j1, j1 < 54 ∧ M1.1 0 31 = nI j1 ∧ (∀ M2, M2 = jrI M1 11 (upd (M1.1 11) j1 l3) → ∀ M3, M3 = jrI M2 0 (upd (M2.1 0) 31 ((M2.1 0 31) + (1 : Int32))) → JW x jtbM mX12_findCovers (d + 1) (jV P) 19 [(0, .ref (x.2.2.2 0)), (1, .int l1), (2, .int (l2 + 1))] [] M3)) ∧ (¬ l4 = 0 → JW x jtbM mX12_findCovers (d + 1) (jV P) 19 [(0, .ref (x.2.2.2 0)), (1, .int l1), (2, .int (l2 + 1))] [] M1)) ∧ (¬ r1 ≤ l5 → (¬ l4 = 0 → JW x jtbM mX12_findCovers (d + 1) (jV P) 50 [(0, .ref (x.2.2.2 0)), (1, .int l1), (2, .int l2), (3, .int l3), (4, .int (1 : Int32)), (5, .int (l5 + 1))] [] M1) ∧ (l4 = 0 → JC x jtbM mX12_has d [.ref (x.2.2.2 0), .int l3, .int l5] M1 (jZ fun M4 b1 => (b1 = false → JW x jtbM mX12_findCovers (d + 1) (jV P) 50 [(0, .ref (x.2.2.2 0)), (1, .int l1), (2, .int l2), (3, .int l3), (4, .int (0 : Int32)), (5, .int (l5 + 1))] [] M4) ∧ (b1 = true → ∃ j2, j2 < 25 ∧ l5 = nI j2 ∧ (∃ j3, j3 < 2060 ∧ (28 : Int32) + l5 = nI j3 ∧ ((¬ (M4.1 9 j2) = (M4.1 5 j3) → JW x jtbM mX12_findCovers (d + 1) (jV P) 50 [(0, .ref (x.2.2.2 0)), (1, .int l1), (2, .int l2), (3, .int l3), (4, .int (0 : Int32)), (5, .int (l5 + 1))] [] M4) ∧ ((M4.1 9 j2) = (M4.1 5 j3) → JW x jtbM mX12_findCovers (d + 1) (jV P) 50 [(0, .ref (x.2.2.2 0)), (1, .int l1), (2, .int l2), (3, .int l3), (4, .int (1 : Int32)), (5, .int (l5 + 1))] [] M4))))))))) :
    JW x jtbM mX12_findCovers (d + 1) (jV P) 50 [(0, .ref (x.2.2.2 0)), (1, .int l1), (2, .int l2), (3, .int l3), (4, .int l4), (5, .int l5)] [] M := by
  refine jw_iload (pc := 50) (j := 5) dX12_findCovers_50 rfl ?_
  refine jw_aload_n (pc := 52) (j := 0) dX12_findCovers_52 rfl rfl ?_
  refine jw_callV (pc := 53) (m2 := mX12_cells) (As := []) (st := [.int l5]) dX12_findCovers_53 sM_0 (by decide) rfl rfl gm_X12_cells ml_X12_305 rfl (Nat.le_of_ble_eq_true rfl) (JC.mono h ?_)
  clear h
  rintro M1 _ ⟨r1, rfl, h⟩
  refine jw_st (st' := [.int r1, .int l5]) rfl ?_
  refine jw_icmp_ge (pc := 56) (tgt := 107) dX12_findCovers_56 (by decide) (fun c => ?_) (fun c => ?_)
  · replace h := h.1 c
    refine jw_iload (pc := 107) (j := 4) dX12_findCovers_107 rfl ?_
    refine jw_if_eq (pc := 109) (tgt := 115) dX12_findCovers_109 (by decide) (fun c => ?_) (fun c => ?_)
    · replace h := h.1 c
      refine jw_aload_n (pc := 115) (j := 0) dX12_findCovers_115 rfl rfl ?_
      refine jw_getR (pc := 116) (r := 11) dX12_findCovers_116 sM_0 fl_X12_54 (by decide) rfl rfl ?_
      refine jw_aload_n (pc := 119) (j := 0) dX12_findCovers_119 rfl rfl ?_
      refine jw_getI (pc := 120) dX12_findCovers_120 sM_0 fl_X12_378 (by decide) rfl ?_
      refine jw_iload_n (pc := 123) (j := 3) dX12_findCovers_123 rfl rfl ?_
      obtain ⟨j1, hj1, ej1, h⟩ := h
      refine jw_iast (pc := 124) (j := j1) dX12_findCovers_124 sM_11 hj1 ej1 (by decide) ?_
      replace h := h _ rfl
      generalize jrI M1 11 (upd (M1.1 11) j1 l3) = M2 at h ⊢
      refine jw_aload_n (pc := 125) (j := 0) dX12_findCovers_125 rfl rfl ?_
      refine jw_dup (pc := 126) dX12_findCovers_126 rfl ?_
      refine jw_getI (pc := 127) dX12_findCovers_127 sM_0 fl_X12_378 (by decide) rfl ?_
      refine jw_iconst (pc := 130) (v := 1) dX12_findCovers_130 rfl ?_
      refine jw_iadd (pc := 131) dX12_findCovers_131 ?_
      refine jw_putI (pc := 132) dX12_findCovers_132 sM_0 fl_X12_378 fw_12_31 (by decide) rfl ?_
      replace h := h _ rfl
      generalize jrI M2 0 (upd (M2.1 0) 31 ((M2.1 0 31) + (1 : Int32))) = M3 at h ⊢
      refine jw_iinc (pc := 135) (j := 2) (u := l2 + 1) (ls' := [(2, .int (l2 + 1)), (0, .ref (x.2.2.2 0)), (1, .int l1), (3, .int l3), (4, .int l4), (5, .int l5)]) dX12_findCovers_135 rfl rfl (by decide) rfl ?_
      refine jw_goto (pc := 138) (tgt := 19) dX12_findCovers_138 (by decide) ?_
      exact jw_sub [1, 2, 0] rfl h
    · replace h := h.2 c
      refine jw_goto (pc := 112) (tgt := 135) dX12_findCovers_112 (by decide) ?_
      refine jw_iinc (pc := 135) (j := 2) (u := l2 + 1) (ls' := [(2, .int (l2 + 1)), (0, .ref (x.2.2.2 0)), (1, .int l1), (3, .int l3), (4, .int l4), (5, .int l5)]) dX12_findCovers_135 rfl rfl (by decide) rfl ?_
      refine jw_goto (pc := 138) (tgt := 19) dX12_findCovers_138 (by decide) ?_
      exact jw_sub [1, 2, 0] rfl h
  · replace h := h.2 c
    refine jw_iload (pc := 59) (j := 4) dX12_findCovers_59 rfl ?_
    refine jw_if_ne (pc := 61) (tgt := 94) dX12_findCovers_61 (by decide) (fun c => ?_) (fun c => ?_)
    · replace h := h.1 c
      refine jw_iconst (pc := 94) (v := 1) dX12_findCovers_94 rfl ?_
      refine jw_goto (pc := 95) (tgt := 99) dX12_findCovers_95 (by decide) ?_
      refine jw_istore (pc := 99) (ls' := [(4, .int (1 : Int32)), (0, .ref (x.2.2.2 0)), (1, .int l1), (2, .int l2), (3, .int l3), (5, .int l5)]) dX12_findCovers_99 (by decide) rfl ?_
      refine jw_iinc (pc := 101) (j := 5) (u := l5 + 1) (ls' := [(5, .int (l5 + 1)), (4, .int (1 : Int32)), (0, .ref (x.2.2.2 0)), (1, .int l1), (2, .int l2), (3, .int l3)]) dX12_findCovers_101 rfl rfl (by decide) rfl ?_
      refine jw_goto (pc := 104) (tgt := 50) dX12_findCovers_104 (by decide) ?_
      exact jw_sub [2, 3, 4, 5, 1, 0] rfl h
    · replace h := h.2 c
      refine jw_aload_n (pc := 64) (j := 0) dX12_findCovers_64 rfl rfl ?_
      refine jw_iload_n (pc := 65) (j := 3) dX12_findCovers_65 rfl rfl ?_
      refine jw_iload (pc := 66) (j := 5) dX12_findCovers_66 rfl ?_
      refine jw_callV (pc := 68) (m2 := mX12_has) (As := [.int l3, .int l5]) (st := []) dX12_findCovers_68 sM_0 (by decide) rfl rfl gm_X12_has ml_X12_381 rfl (Nat.le_of_ble_eq_true rfl) (JC.mono h ?_)
      clear h
      rintro M4 _ ⟨b1, rfl, h⟩
      refine jw_st (st' := [.int (jb b1)]) rfl ?_
      refine jw_if_eq (pc := 71) (tgt := 98) dX12_findCovers_71 (by decide) (fun c => ?_) (fun c => ?_)
      · replace h := h.1 ((jb_0 _).mp c)
        refine jw_iconst (pc := 98) (v := 0) dX12_findCovers_98 rfl ?_
        refine jw_istore (pc := 99) (ls' := [(4, .int (0 : Int32)), (0, .ref (x.2.2.2 0)), (1, .int l1), (2, .int l2), (3, .int l3), (5, .int l5)]) dX12_findCovers_99 (by decide) rfl ?_
        refine jw_iinc (pc := 101) (j := 5) (u := l5 + 1) (ls' := [(5, .int (l5 + 1)), (4, .int (0 : Int32)), (0, .ref (x.2.2.2 0)), (1, .int l1), (2, .int l2), (3, .int l3)]) dX12_findCovers_101 rfl rfl (by decide) rfl ?_
        refine jw_goto (pc := 104) (tgt := 50) dX12_findCovers_104 (by decide) ?_
        exact jw_sub [2, 3, 4, 5, 1, 0] rfl h
      · replace h := h.2 (jb_ne c)
        refine jw_aload_n (pc := 74) (j := 0) dX12_findCovers_74 rfl rfl ?_
        refine jw_getR (pc := 75) (r := 9) dX12_findCovers_75 sM_0 fl_X12_48 (by decide) rfl rfl ?_
        refine jw_iload (pc := 78) (j := 5) dX12_findCovers_78 rfl ?_
        obtain ⟨j2, hj2, ej2, h⟩ := h
        refine jw_iald (pc := 80) (j := j2) dX12_findCovers_80 sM_9 hj2 ej2 (by decide) ?_
        refine jw_aload_n (pc := 81) (j := 0) dX12_findCovers_81 rfl rfl ?_
        refine jw_getR (pc := 82) (r := 5) dX12_findCovers_82 sM_0 fl_X12_35 (by decide) rfl rfl ?_
        refine jw_bipush (pc := 85) (v := 28) dX12_findCovers_85 rfl ?_
        refine jw_iload (pc := 87) (j := 5) dX12_findCovers_87 rfl ?_
        refine jw_iadd (pc := 89) dX12_findCovers_89 ?_
        obtain ⟨j3, hj3, ej3, h⟩ := h
        refine jw_iald (pc := 90) (j := j3) dX12_findCovers_90 sM_5 hj3 ej3 (by decide) ?_
        refine jw_icmp_ne (pc := 91) (tgt := 98) dX12_findCovers_91 (by decide) (fun c => ?_) (fun c => ?_)
        · replace h := h.1 c
          refine jw_iconst (pc := 98) (v := 0) dX12_findCovers_98 rfl ?_
          refine jw_istore (pc := 99) (ls' := [(4, .int (0 : Int32)), (0, .ref (x.2.2.2 0)), (1, .int l1), (2, .int l2), (3, .int l3), (5, .int l5)]) dX12_findCovers_99 (by decide) rfl ?_
          refine jw_iinc (pc := 101) (j := 5) (u := l5 + 1) (ls' := [(5, .int (l5 + 1)), (4, .int (0 : Int32)), (0, .ref (x.2.2.2 0)), (1, .int l1), (2, .int l2), (3, .int l3)]) dX12_findCovers_101 rfl rfl (by decide) rfl ?_
          refine jw_goto (pc := 104) (tgt := 50) dX12_findCovers_104 (by decide) ?_
          exact jw_sub [2, 3, 4, 5, 1, 0] rfl h
        · replace h := h.2 c
          refine jw_iconst (pc := 94) (v := 1) dX12_findCovers_94 rfl ?_
          refine jw_goto (pc := 95) (tgt := 99) dX12_findCovers_95 (by decide) ?_
          refine jw_istore (pc := 99) (ls' := [(4, .int (1 : Int32)), (0, .ref (x.2.2.2 0)), (1, .int l1), (2, .int l2), (3, .int l3), (5, .int l5)]) dX12_findCovers_99 (by decide) rfl ?_
          refine jw_iinc (pc := 101) (j := 5) (u := l5 + 1) (ls' := [(5, .int (l5 + 1)), (4, .int (1 : Int32)), (0, .ref (x.2.2.2 0)), (1, .int l1), (2, .int l2), (3, .int l3)]) dX12_findCovers_101 rfl rfl (by decide) rfl ?_
          refine jw_goto (pc := 104) (tgt := 50) dX12_findCovers_104 (by decide) ?_
          exact jw_sub [2, 3, 4, 5, 1, 0] rfl h
set_option maxRecDepth 20000 in
theorem b_X12_bits {x : jX} {d : Nat} {M : jM} {P : jM → Int32 → Prop} {a0 : Int32} 
    (h : JW x jtbM mX12_bits d (jI P) 4 [(0, .int a0), (1, .int (0 : Int32)), (2, .int (0 : Int32))] [] M) :
    JC x jtbM mX12_bits d [.int a0] M (jI P) := by
  refine JC.of rfl (Nat.le_of_ble_eq_true rfl) ?_
  refine jw_ls (ls' := [(0, .int a0)]) rfl ?_
  refine jw_iconst (pc := 0) (v := 0) dX12_bits_0 rfl ?_
  refine jw_istore_n (pc := 1) (ls' := [(1, .int (0 : Int32)), (0, .int a0)]) dX12_bits_1 rfl (by decide) rfl ?_
  refine jw_iconst (pc := 2) (v := 0) dX12_bits_2 rfl ?_
  refine jw_istore_n (pc := 3) (ls' := [(2, .int (0 : Int32)), (1, .int (0 : Int32)), (0, .int a0)]) dX12_bits_3 rfl (by decide) rfl ?_
  exact jw_sub [2, 1, 0] rfl h
set_option maxRecDepth 20000 in
theorem b_X12_bits_4 {x : jX} {d : Nat} {M : jM} {P : jM → Int32 → Prop} {l0 : Int32} {l1 : Int32} {l2 : Int32} 
    (h : ((25 : Int32) ≤ l2 → P M l1) ∧ (¬ (25 : Int32) ≤ l2 → JW x jtbM mX12_bits d (jI P) 4 [(0, .int l0), (1, .int (l1 + ((l0 >>> (l2 &&& 31)) &&& (1 : Int32)))), (2, .int (l2 + 1))] [] M)) :
    JW x jtbM mX12_bits d (jI P) 4 [(0, .int l0), (1, .int l1), (2, .int l2)] [] M := by
  refine jw_iload_n (pc := 4) (j := 2) dX12_bits_4 rfl rfl ?_
  refine jw_bipush (pc := 5) (v := 25) dX12_bits_5 rfl ?_
  refine jw_icmp_ge (pc := 7) (tgt := 24) dX12_bits_7 (by decide) (fun c => ?_) (fun c => ?_)
  · replace h := h.1 c
    refine jw_iload_n (pc := 24) (j := 1) dX12_bits_24 rfl rfl ?_
    exact jw_iret (pc := 25) dX12_bits_25 rfl ⟨_, rfl, h⟩
  · replace h := h.2 c
    refine jw_iload_n (pc := 10) (j := 1) dX12_bits_10 rfl rfl ?_
    refine jw_iload_n (pc := 11) (j := 0) dX12_bits_11 rfl rfl ?_
    refine jw_iload_n (pc := 12) (j := 2) dX12_bits_12 rfl rfl ?_
    refine jw_ishr (pc := 13) dX12_bits_13 ?_
    refine jw_iconst (pc := 14) (v := 1) dX12_bits_14 rfl ?_
    refine jw_iand (pc := 15) dX12_bits_15 ?_
    refine jw_iadd (pc := 16) dX12_bits_16 ?_
    refine jw_istore_n (pc := 17) (ls' := [(1, .int (l1 + ((l0 >>> (l2 &&& 31)) &&& (1 : Int32)))), (0, .int l0), (2, .int l2)]) dX12_bits_17 rfl (by decide) rfl ?_
    refine jw_iinc (pc := 18) (j := 2) (u := l2 + 1) (ls' := [(2, .int (l2 + 1)), (1, .int (l1 + ((l0 >>> (l2 &&& 31)) &&& (1 : Int32)))), (0, .int l0)]) dX12_bits_18 rfl rfl (by decide) rfl ?_
    refine jw_goto (pc := 21) (tgt := 4) dX12_bits_21 (by decide) ?_
    exact jw_sub [2, 1, 0] rfl h
set_option maxRecDepth 20000 in
theorem b_X12_cover {x : jX} {d : Nat} {M : jM} {P : jM → Prop} {a1 : Int32} {a2 : Int32} {a3 : Int32} 
    (h : ((M.1 0 32) < 0 → JW x jtbM mX12_cover (d + 1) (jV P) 22 [(0, .ref (x.2.2.2 0)), (1, .int a1), (2, .int a2), (3, .int a3), (4, .int (-1 : Int32)), (5, .int (0 : Int32))] [] M) ∧ (¬ (M.1 0 32) < 0 → (a3 < (M.1 0 32) → JW x jtbM mX12_cover (d + 1) (jV P) 22 [(0, .ref (x.2.2.2 0)), (1, .int a1), (2, .int a2), (3, .int a3), (4, .int (-1 : Int32)), (5, .int (0 : Int32))] [] M) ∧ (¬ a3 < (M.1 0 32) → P M))) :
    JC x jtbM mX12_cover (d + 1) [.ref (x.2.2.2 0), .int a1, .int a2, .int a3] M (jV P) := by
  refine JC.of rfl (Nat.le_of_ble_eq_true rfl) ?_
  refine jw_ls (ls' := [(0, .ref (x.2.2.2 0)), (1, .int a1), (2, .int a2), (3, .int a3)]) rfl ?_
  refine jw_aload_n (pc := 0) (j := 0) dX12_cover_0 rfl rfl ?_
  refine jw_getI (pc := 1) dX12_cover_1 sM_0 fl_X12_384 (by decide) rfl ?_
  refine jw_if_lt (pc := 4) (tgt := 16) dX12_cover_4 (by decide) (fun c => ?_) (fun c => ?_)
  · replace h := h.1 c
    refine jw_iconst (pc := 16) (v := (-1)) dX12_cover_16 rfl ?_
    refine jw_istore (pc := 17) (ls' := [(4, .int (-1 : Int32)), (0, .ref (x.2.2.2 0)), (1, .int a1), (2, .int a2), (3, .int a3)]) dX12_cover_17 (by decide) rfl ?_
    refine jw_iconst (pc := 19) (v := 0) dX12_cover_19 rfl ?_
    refine jw_istore (pc := 20) (ls' := [(5, .int (0 : Int32)), (4, .int (-1 : Int32)), (0, .ref (x.2.2.2 0)), (1, .int a1), (2, .int a2), (3, .int a3)]) dX12_cover_20 (by decide) rfl ?_
    exact jw_sub [2, 3, 4, 5, 1, 0] rfl h
  · replace h := h.2 c
    refine jw_iload_n (pc := 7) (j := 3) dX12_cover_7 rfl rfl ?_
    refine jw_aload_n (pc := 8) (j := 0) dX12_cover_8 rfl rfl ?_
    refine jw_getI (pc := 9) dX12_cover_9 sM_0 fl_X12_384 (by decide) rfl ?_
    refine jw_icmp_lt (pc := 12) (tgt := 16) dX12_cover_12 (by decide) (fun c => ?_) (fun c => ?_)
    · replace h := h.1 c
      refine jw_iconst (pc := 16) (v := (-1)) dX12_cover_16 rfl ?_
      refine jw_istore (pc := 17) (ls' := [(4, .int (-1 : Int32)), (0, .ref (x.2.2.2 0)), (1, .int a1), (2, .int a2), (3, .int a3)]) dX12_cover_17 (by decide) rfl ?_
      refine jw_iconst (pc := 19) (v := 0) dX12_cover_19 rfl ?_
      refine jw_istore (pc := 20) (ls' := [(5, .int (0 : Int32)), (4, .int (-1 : Int32)), (0, .ref (x.2.2.2 0)), (1, .int a1), (2, .int a2), (3, .int a3)]) dX12_cover_20 (by decide) rfl ?_
      exact jw_sub [2, 3, 4, 5, 1, 0] rfl h
    · replace h := h.2 c
      exact jw_vret (pc := 15) dX12_cover_15 rfl ⟨rfl, h⟩
set_option maxRecDepth 20000 in
theorem b_X12_cover_22 {x : jX} {d : Nat} {M : jM} {P : jM → Prop} {l1 : Int32} {l2 : Int32} {l3 : Int32} {l4 : Int32} {l5 : Int32} 
    (h : ((M.1 0 31) ≤ l5 → (0 ≤ l4 → JW x jtbM mX12_cover (d + 1) (jV P) 115 [(0, .ref (x.2.2.2 0)), (1, .int l1), (2, .int l2), (3, .int l3), (4, .int l4), (5, .int l2), (6, .int (0 : Int32))] [] M) ∧ (¬ 0 ≤ l4 → ∀ M1, M1 = jrI M 0 (upd (M.1 0) 32 l3) → P M1)) ∧ (¬ (M.1 0 31) ≤ l5 → ∃ j1, j1 < 54 ∧ l5 = nI j1 ∧ ((((M.1 11 j1) &&& l1) = 0 → (¬ ((M.1 11 j1) &&& l2) = 0 → (l4 < 0 → JW x jtbM mX12_cover (d + 1) (jV P) 22 [(0, .ref (x.2.2.2 0)), (1, .int l1), (2, .int l2), (3, .int l3), (4, .int l5), (5, .int (l5 + 1))] [] M) ∧ (¬ l4 < 0 → JC x jtbM mX12_bits d [.int ((M.1 11 j1) &&& l2)] M (jI fun M2 r1 => ∃ j2, j2 < 54 ∧ l4 = nI j2 ∧ (JC x jtbM mX12_bits d [.int ((M2.1 11 j2) &&& l2)] M2 (jI fun M3 r2 => (r2 ≤ r1 → JW x jtbM mX12_cover (d + 1) (jV P) 22 [(0, .ref (x.2.2.2 0)), (1, .int l1), (2, .int l2), (3, .int l3), (4, .int l4), (5, .int (l5 + 1))] [] M3) ∧ (¬ r2 ≤ r1 → JW x jtbM mX12_cover (d + 1) (jV P) 22 [(0, .ref (x.2.2.2 0)), (1, .int l1), (2, .int l2), (3, .int l3), (4, .int l5), (5, .int (l5 + 1))] [] M3)))))) ∧ (((M.1 11 j1) &&& l2) = 0 → P M)) ∧ (¬ ((M.1 11 j1) &&& l1) = 0 → JW x jtbM mX12_cover (d + 1) (jV P) 22 [(0, .ref (x.2.2.2 0)), (1, .int l1), (2, .int l2), (3, .int l3), (4, .int l4), (5, .int (l5 + 1))] [] M)))) :
    JW x jtbM mX12_cover (d + 1) (jV P) 22 [(0, .ref (x.2.2.2 0)), (1, .int l1), (2, .int l2), (3, .int l3), (4, .int l4), (5, .int l5)] [] M := by
  refine jw_iload (pc := 22) (j := 5) dX12_cover_22 rfl ?_
  refine jw_aload_n (pc := 24) (j := 0) dX12_cover_24 rfl rfl ?_
  refine jw_getI (pc := 25) dX12_cover_25 sM_0 fl_X12_378 (by decide) rfl ?_
  refine jw_icmp_ge (pc := 28) (tgt := 98) dX12_cover_28 (by decide) (fun c => ?_) (fun c => ?_)
  · replace h := h.1 c
    refine jw_iload (pc := 98) (j := 4) dX12_cover_98 rfl ?_
    refine jw_if_ge (pc := 100) (tgt := 109) dX12_cover_100 (by decide) (fun c => ?_) (fun c => ?_)
    · replace h := h.1 c
      refine jw_iload_n (pc := 109) (j := 2) dX12_cover_109 rfl rfl ?_
      refine jw_istore (pc := 110) (ls' := [(5, .int l2), (0, .ref (x.2.2.2 0)), (1, .int l1), (2, .int l2), (3, .int l3), (4, .int l4)]) dX12_cover_110 (by decide) rfl ?_
      refine jw_iconst (pc := 112) (v := 0) dX12_cover_112 rfl ?_
      refine jw_istore (pc := 113) (ls' := [(6, .int (0 : Int32)), (5, .int l2), (0, .ref (x.2.2.2 0)), (1, .int l1), (2, .int l2), (3, .int l3), (4, .int l4)]) dX12_cover_113 (by decide) rfl ?_
      exact jw_sub [2, 3, 4, 5, 6, 1, 0] rfl h
    · replace h := h.2 c
      refine jw_aload_n (pc := 103) (j := 0) dX12_cover_103 rfl rfl ?_
      refine jw_iload_n (pc := 104) (j := 3) dX12_cover_104 rfl rfl ?_
      refine jw_putI (pc := 105) dX12_cover_105 sM_0 fl_X12_384 fw_12_32 (by decide) rfl ?_
      replace h := h _ rfl
      generalize jrI M 0 (upd (M.1 0) 32 l3) = M1 at h ⊢
      exact jw_vret (pc := 108) dX12_cover_108 rfl ⟨rfl, h⟩
  · replace h := h.2 c
    refine jw_aload_n (pc := 31) (j := 0) dX12_cover_31 rfl rfl ?_
    refine jw_getR (pc := 32) (r := 11) dX12_cover_32 sM_0 fl_X12_54 (by decide) rfl rfl ?_
    refine jw_iload (pc := 35) (j := 5) dX12_cover_35 rfl ?_
    obtain ⟨j1, hj1, ej1, h⟩ := h
    refine jw_iald (pc := 37) (j := j1) dX12_cover_37 sM_11 hj1 ej1 (by decide) ?_
    refine jw_iload_n (pc := 38) (j := 1) dX12_cover_38 rfl rfl ?_
    refine jw_iand (pc := 39) dX12_cover_39 ?_
    refine jw_if_eq (pc := 40) (tgt := 46) dX12_cover_40 (by decide) (fun c => ?_) (fun c => ?_)
    · replace h := h.1 c
      refine jw_aload_n (pc := 46) (j := 0) dX12_cover_46 rfl rfl ?_
      refine jw_getR (pc := 47) (r := 11) dX12_cover_47 sM_0 fl_X12_54 (by decide) rfl rfl ?_
      refine jw_iload (pc := 50) (j := 5) dX12_cover_50 rfl ?_
      refine jw_iald (pc := 52) (j := j1) dX12_cover_52 sM_11 hj1 ej1 (by decide) ?_
      refine jw_iload_n (pc := 53) (j := 2) dX12_cover_53 rfl rfl ?_
      refine jw_iand (pc := 54) dX12_cover_54 ?_
      refine jw_istore (pc := 55) (ls' := [(6, .int ((M.1 11 j1) &&& l2)), (0, .ref (x.2.2.2 0)), (1, .int l1), (2, .int l2), (3, .int l3), (4, .int l4), (5, .int l5)]) dX12_cover_55 (by decide) rfl ?_
      refine jw_iload (pc := 57) (j := 0) dX12_cover_57 rfl ?_
      refine jw_if_ne (pc := 59) (tgt := 63) dX12_cover_59 (by decide) (fun c => ?_) (fun c => ?_)
      · replace h := h.1 c
        refine jw_iload (pc := 63) (j := 5) dX12_cover_63 rfl ?_
        refine jw_if_lt (pc := 65) (tgt := 88) dX12_cover_65 (by decide) (fun c => ?_) (fun c => ?_)
        · replace h := h.1 c
          refine jw_iload (pc := 88) (j := 6) dX12_cover_88 rfl ?_
          refine jw_istore (pc := 90) (ls' := [(4, .int l5), (6, .int ((M.1 11 j1) &&& l2)), (0, .ref (x.2.2.2 0)), (1, .int l1), (2, .int l2), (3, .int l3), (5, .int l5)]) dX12_cover_90 (by decide) rfl ?_
          refine jw_iinc (pc := 92) (j := 6) (u := l5 + 1) (ls' := [(5, .int (l5 + 1)), (4, .int l5), (6, .int ((M.1 11 j1) &&& l2)), (0, .ref (x.2.2.2 0)), (1, .int l1), (2, .int l2), (3, .int l3)]) dX12_cover_92 rfl rfl (by decide) rfl ?_
          refine jw_goto (pc := 95) (tgt := 22) dX12_cover_95 (by decide) ?_
          exact jw_sub [3, 4, 5, 6, 1, 0] rfl h
        · replace h := h.2 c
          refine jw_iload (pc := 68) (j := 0) dX12_cover_68 rfl ?_
          refine jw_callS (pc := 70) (m2 := mX12_bits) (As := [.int ((M.1 11 j1) &&& l2)]) (st := []) dX12_cover_70 gm_X12_bits ml_X12_387 rfl (Nat.le_of_ble_eq_true rfl) (JC.mono h ?_)
          clear h
          rintro M2 _ ⟨r1, rfl, h⟩
          refine jw_st (st' := [.int r1]) rfl ?_
          refine jw_aload_n (pc := 73) (j := 1) dX12_cover_73 rfl rfl ?_
          refine jw_getR (pc := 74) (r := 11) dX12_cover_74 sM_0 fl_X12_54 (by decide) rfl rfl ?_
          refine jw_iload (pc := 77) (j := 5) dX12_cover_77 rfl ?_
          obtain ⟨j2, hj2, ej2, h⟩ := h
          refine jw_iald (pc := 79) (j := j2) dX12_cover_79 sM_11 hj2 ej2 (by decide) ?_
          refine jw_iload_n (pc := 80) (j := 3) dX12_cover_80 rfl rfl ?_
          refine jw_iand (pc := 81) dX12_cover_81 ?_
          refine jw_callS (pc := 82) (m2 := mX12_bits) (As := [.int ((M2.1 11 j2) &&& l2)]) (st := [.int r1]) dX12_cover_82 gm_X12_bits ml_X12_387 rfl (Nat.le_of_ble_eq_true rfl) (JC.mono h ?_)
          clear h
          rintro M3 _ ⟨r2, rfl, h⟩
          refine jw_st (st' := [.int r2, .int r1]) rfl ?_
          refine jw_icmp_ge (pc := 85) (tgt := 92) dX12_cover_85 (by decide) (fun c => ?_) (fun c => ?_)
          · replace h := h.1 c
            refine jw_iinc (pc := 92) (j := 6) (u := l5 + 1) (ls' := [(5, .int (l5 + 1)), (6, .int ((M.1 11 j1) &&& l2)), (0, .ref (x.2.2.2 0)), (1, .int l1), (2, .int l2), (3, .int l3), (4, .int l4)]) dX12_cover_92 rfl rfl (by decide) rfl ?_
            refine jw_goto (pc := 95) (tgt := 22) dX12_cover_95 (by decide) ?_
            exact jw_sub [2, 3, 4, 5, 6, 0] rfl h
          · replace h := h.2 c
            refine jw_iload (pc := 88) (j := 6) dX12_cover_88 rfl ?_
            refine jw_istore (pc := 90) (ls' := [(4, .int l5), (6, .int ((M.1 11 j1) &&& l2)), (0, .ref (x.2.2.2 0)), (1, .int l1), (2, .int l2), (3, .int l3), (5, .int l5)]) dX12_cover_90 (by decide) rfl ?_
            refine jw_iinc (pc := 92) (j := 6) (u := l5 + 1) (ls' := [(5, .int (l5 + 1)), (4, .int l5), (6, .int ((M.1 11 j1) &&& l2)), (0, .ref (x.2.2.2 0)), (1, .int l1), (2, .int l2), (3, .int l3)]) dX12_cover_92 rfl rfl (by decide) rfl ?_
            refine jw_goto (pc := 95) (tgt := 22) dX12_cover_95 (by decide) ?_
            exact jw_sub [3, 4, 5, 6, 1, 0] rfl h
      · replace h := h.2 c
        exact jw_vret (pc := 62) dX12_cover_62 rfl ⟨rfl, h⟩
    · replace h := h.2 c
      refine jw_goto (pc := 43) (tgt := 92) dX12_cover_43 (by decide) ?_
      refine jw_iinc (pc := 92) (j := 5) (u := l5 + 1) (ls' := [(5, .int (l5 + 1)), (0, .ref (x.2.2.2 0)), (1, .int l1), (2, .int l2), (3, .int l3), (4, .int l4)]) dX12_cover_92 rfl rfl (by decide) rfl ?_
      refine jw_goto (pc := 95) (tgt := 22) dX12_cover_95 (by decide) ?_
      exact jw_sub [1, 2, 3, 4, 5, 0] rfl h
set_option maxRecDepth 20000 in
theorem b_X12_cover_115 {x : jX} {d : Nat} {M : jM} {P : jM → Prop} {l1 : Int32} {l2 : Int32} {l3 : Int32} {l4 : Int32} {l5 : Int32} {l6 : Int32} 
    (h : JC x jtbM mX12_cells d [.ref (x.2.2.2 0)] M (jI fun M1 r1 => (r1 ≤ l6 → P M1) ∧ (¬ r1 ≤ l6 → ∃ j1, j1 < 54 ∧ l4 = nI j1 ∧ (JC x jtbM mX12_has d [.ref (x.2.2.2 0), .int ((M1.1 11 j1) &&& l2), .int l6] M1 (jZ fun M2 b1 => (b1 = true → ∃ j2, j2 < 25 ∧ l6 = nI j2 ∧ (JC x jtbM mX12_cover d [.ref (x.2.2.2 0), .int (l1 ||| ((1 : Int32) <<< (l6 &&& 31))), .int (l5 &&& (((1 : Int32) <<< (l6 &&& 31)) ^^^ (-1 : Int32))), .int (l3 + (M2.1 10 j2))] M2 (jV fun M3 => JW x jtbM mX12_cover (d + 1) (jV P) 115 [(0, .ref (x.2.2.2 0)), (1, .int l1), (2, .int l2), (3, .int l3), (4, .int l4), (5, .int (l5 &&& (((1 : Int32) <<< (l6 &&& 31)) ^^^ (-1 : Int32)))), (6, .int (l6 + 1))] [] M3))) ∧ (b1 = false → JW x jtbM mX12_cover (d + 1) (jV P) 115 [(0, .ref (x.2.2.2 0)), (1, .int l1), (2, .int l2), (3, .int l3), (4, .int l4), (5, .int l5), (6, .int (l6 + 1))] [] M2)))))) :
    JW x jtbM mX12_cover (d + 1) (jV P) 115 [(0, .ref (x.2.2.2 0)), (1, .int l1), (2, .int l2), (3, .int l3), (4, .int l4), (5, .int l5), (6, .int l6)] [] M := by
  refine jw_iload (pc := 115) (j := 6) dX12_cover_115 rfl ?_
  refine jw_aload_n (pc := 117) (j := 0) dX12_cover_117 rfl rfl ?_
  refine jw_callV (pc := 118) (m2 := mX12_cells) (As := []) (st := [.int l6]) dX12_cover_118 sM_0 (by decide) rfl rfl gm_X12_cells ml_X12_305 rfl (Nat.le_of_ble_eq_true rfl) (JC.mono h ?_)
  clear h
  rintro M1 _ ⟨r1, rfl, h⟩
  refine jw_st (st' := [.int r1, .int l6]) rfl ?_
  refine jw_icmp_ge (pc := 121) (tgt := 183) dX12_cover_121 (by decide) (fun c => ?_) (fun c => ?_)
  · replace h := h.1 c
    exact jw_vret (pc := 183) dX12_cover_183 rfl ⟨rfl, h⟩
  · replace h := h.2 c
    refine jw_aload_n (pc := 124) (j := 0) dX12_cover_124 rfl rfl ?_
    refine jw_aload_n (pc := 125) (j := 0) dX12_cover_125 rfl rfl ?_
    refine jw_getR (pc := 126) (r := 11) dX12_cover_126 sM_0 fl_X12_54 (by decide) rfl rfl ?_
    refine jw_iload (pc := 129) (j := 4) dX12_cover_129 rfl ?_
    obtain ⟨j1, hj1, ej1, h⟩ := h
    refine jw_iald (pc := 131) (j := j1) dX12_cover_131 sM_11 hj1 ej1 (by decide) ?_
    refine jw_iload_n (pc := 132) (j := 2) dX12_cover_132 rfl rfl ?_
    refine jw_iand (pc := 133) dX12_cover_133 ?_
    refine jw_iload (pc := 134) (j := 6) dX12_cover_134 rfl ?_
    refine jw_callV (pc := 136) (m2 := mX12_has) (As := [.int ((M1.1 11 j1) &&& l2), .int l6]) (st := []) dX12_cover_136 sM_0 (by decide) rfl rfl gm_X12_has ml_X12_381 rfl (Nat.le_of_ble_eq_true rfl) (JC.mono h ?_)
    clear h
    rintro M2 _ ⟨b1, rfl, h⟩
    refine jw_st (st' := [.int (jb b1)]) rfl ?_
    refine jw_if_ne (pc := 139) (tgt := 145) dX12_cover_139 (by decide) (fun c => ?_) (fun c => ?_)
    · replace h := h.1 (jb_ne c)
      refine jw_iload (pc := 145) (j := 5) dX12_cover_145 rfl ?_
      refine jw_iconst (pc := 147) (v := 1) dX12_cover_147 rfl ?_
      refine jw_iload (pc := 148) (j := 6) dX12_cover_148 rfl ?_
      refine jw_ishl (pc := 150) dX12_cover_150 ?_
      refine jw_iconst (pc := 151) (v := (-1)) dX12_cover_151 rfl ?_
      refine jw_ixor (pc := 152) dX12_cover_152 ?_
      refine jw_iand (pc := 153) dX12_cover_153 ?_
      refine jw_istore (pc := 154) (ls' := [(5, .int (l5 &&& (((1 : Int32) <<< (l6 &&& 31)) ^^^ (-1 : Int32)))), (0, .ref (x.2.2.2 0)), (1, .int l1), (2, .int l2), (3, .int l3), (4, .int l4), (6, .int l6)]) dX12_cover_154 (by decide) rfl ?_
      refine jw_aload_n (pc := 156) (j := 1) dX12_cover_156 rfl rfl ?_
      refine jw_iload_n (pc := 157) (j := 2) dX12_cover_157 rfl rfl ?_
      refine jw_iconst (pc := 158) (v := 1) dX12_cover_158 rfl ?_
      refine jw_iload (pc := 159) (j := 6) dX12_cover_159 rfl ?_
      refine jw_ishl (pc := 161) dX12_cover_161 ?_
      refine jw_ior (pc := 162) dX12_cover_162 ?_
      refine jw_iload (pc := 163) (j := 0) dX12_cover_163 rfl ?_
      refine jw_iload_n (pc := 165) (j := 4) dX12_cover_165 rfl rfl ?_
      refine jw_aload_n (pc := 166) (j := 1) dX12_cover_166 rfl rfl ?_
      refine jw_getR (pc := 167) (r := 10) dX12_cover_167 sM_0 fl_X12_51 (by decide) rfl rfl ?_
      refine jw_iload (pc := 170) (j := 6) dX12_cover_170 rfl ?_
      obtain ⟨j2, hj2, ej2, h⟩ := h
      refine jw_iald (pc := 172) (j := j2) dX12_cover_172 sM_10 hj2 ej2 (by decide) ?_
      refine jw_iadd (pc := 173) dX12_cover_173 ?_
      refine jw_callV (pc := 174) (m2 := mX12_cover) (As := [.int (l1 ||| ((1 : Int32) <<< (l6 &&& 31))), .int (l5 &&& (((1 : Int32) <<< (l6 &&& 31)) ^^^ (-1 : Int32))), .int (l3 + (M2.1 10 j2))]) (st := []) dX12_cover_174 sM_0 (by decide) rfl rfl gm_X12_cover ml_X12_390 rfl (Nat.le_of_ble_eq_true rfl) (JC.mono h ?_)
      clear h
      rintro M3 _ ⟨rfl, h⟩
      refine jw_st (st' := []) rfl ?_
      refine jw_iinc (pc := 177) (j := 6) (u := l6 + 1) (ls' := [(6, .int (l6 + 1)), (5, .int (l5 &&& (((1 : Int32) <<< (l6 &&& 31)) ^^^ (-1 : Int32)))), (0, .ref (x.2.2.2 0)), (1, .int l1), (2, .int l2), (3, .int l3), (4, .int l4)]) dX12_cover_177 rfl rfl (by decide) rfl ?_
      refine jw_goto (pc := 180) (tgt := 115) dX12_cover_180 (by decide) ?_
      exact jw_sub [2, 3, 4, 5, 6, 1, 0] rfl h
    · replace h := h.2 ((jb_0 _).mp c)
      refine jw_goto (pc := 142) (tgt := 177) dX12_cover_142 (by decide) ?_
      refine jw_iinc (pc := 177) (j := 6) (u := l6 + 1) (ls' := [(6, .int (l6 + 1)), (0, .ref (x.2.2.2 0)), (1, .int l1), (2, .int l2), (3, .int l3), (4, .int l4), (5, .int l5)]) dX12_cover_177 rfl rfl (by decide) rfl ?_
      refine jw_goto (pc := 180) (tgt := 115) dX12_cover_180 (by decide) ?_
      exact jw_sub [1, 2, 3, 4, 5, 6, 0] rfl h
set_option maxRecDepth 20000 in
theorem b_X12_leastCover {x : jX} {d : Nat} {M : jM} {P : jM → Int32 → Prop} {a1 : Int32} 
    (h : ∀ M1, M1 = jrI M 0 (upd (M.1 0) 32 (-1 : Int32)) → JC x jtbM mX12_cover d [.ref (x.2.2.2 0), .int (0 : Int32), .int a1, .int (0 : Int32)] M1 (jV fun M2 => P M2 (M2.1 0 32))) :
    JC x jtbM mX12_leastCover (d + 1) [.ref (x.2.2.2 0), .int a1] M (jI P) := by
  refine JC.of rfl (Nat.le_of_ble_eq_true rfl) ?_
  refine jw_ls (ls' := [(0, .ref (x.2.2.2 0)), (1, .int a1)]) rfl ?_
  refine jw_aload_n (pc := 0) (j := 0) dX12_leastCover_0 rfl rfl ?_
  refine jw_iconst (pc := 1) (v := (-1)) dX12_leastCover_1 rfl ?_
  refine jw_putI (pc := 2) dX12_leastCover_2 sM_0 fl_X12_384 fw_12_32 (by decide) rfl ?_
  replace h := h _ rfl
  generalize jrI M 0 (upd (M.1 0) 32 (-1 : Int32)) = M1 at h ⊢
  refine jw_aload_n (pc := 5) (j := 0) dX12_leastCover_5 rfl rfl ?_
  refine jw_iconst (pc := 6) (v := 0) dX12_leastCover_6 rfl ?_
  refine jw_iload_n (pc := 7) (j := 1) dX12_leastCover_7 rfl rfl ?_
  refine jw_iconst (pc := 8) (v := 0) dX12_leastCover_8 rfl ?_
  refine jw_callV (pc := 9) (m2 := mX12_cover) (As := [.int (0 : Int32), .int a1, .int (0 : Int32)]) (st := []) dX12_leastCover_9 sM_0 (by decide) rfl rfl gm_X12_cover ml_X12_390 rfl (Nat.le_of_ble_eq_true rfl) (JC.mono h ?_)
  clear h
  rintro M2 _ ⟨rfl, h⟩
  refine jw_st (st' := []) rfl ?_
  refine jw_aload_n (pc := 12) (j := 0) dX12_leastCover_12 rfl rfl ?_
  refine jw_getI (pc := 13) dX12_leastCover_13 sM_0 fl_X12_384 (by decide) rfl ?_
  exact jw_iret (pc := 16) dX12_leastCover_16 rfl ⟨_, rfl, h⟩
set_option maxRecDepth 20000 in
theorem b_X12_allCells {x : jX} {d : Nat} {M : jM} {P : jM → Int32 → Prop}  
    (h : JC x jtbM mX12_cells d [.ref (x.2.2.2 0)] M (jI fun M1 r1 => P M1 (((1 : Int32) <<< (r1 &&& 31)) - (1 : Int32)))) :
    JC x jtbM mX12_allCells (d + 1) [.ref (x.2.2.2 0)] M (jI P) := by
  refine JC.of rfl (Nat.le_of_ble_eq_true rfl) ?_
  refine jw_ls (ls' := [(0, .ref (x.2.2.2 0))]) rfl ?_
  refine jw_iconst (pc := 0) (v := 1) dX12_allCells_0 rfl ?_
  refine jw_aload_n (pc := 1) (j := 0) dX12_allCells_1 rfl rfl ?_
  refine jw_callV (pc := 2) (m2 := mX12_cells) (As := []) (st := [.int (1 : Int32)]) dX12_allCells_2 sM_0 (by decide) rfl rfl gm_X12_cells ml_X12_305 rfl (Nat.le_of_ble_eq_true rfl) (JC.mono h ?_)
  clear h
  rintro M1 _ ⟨r1, rfl, h⟩
  refine jw_st (st' := [.int r1, .int (1 : Int32)]) rfl ?_
  refine jw_ishl (pc := 5) dX12_allCells_5 ?_
  refine jw_iconst (pc := 6) (v := 1) dX12_allCells_6 rfl ?_
  refine jw_isub (pc := 7) dX12_allCells_7 ?_
  exact jw_iret (pc := 8) dX12_allCells_8 rfl ⟨_, rfl, h⟩
set_option maxRecDepth 20000 in
theorem b_X12_cheapestCost {x : jX} {d : Nat} {M : jM} {P : jM → Int32 → Prop}  
    (h : JC x jtbM mX12_findCovers d [.ref (x.2.2.2 0)] M (jV fun M1 => JW x jtbM mX12_cheapestCost (d + 1) (jI P) 6 [(0, .ref (x.2.2.2 0)), (1, .int (0 : Int32))] [] M1)) :
    JC x jtbM mX12_cheapestCost (d + 1) [.ref (x.2.2.2 0)] M (jI P) := by
  refine JC.of rfl (Nat.le_of_ble_eq_true rfl) ?_
  refine jw_ls (ls' := [(0, .ref (x.2.2.2 0))]) rfl ?_
  refine jw_aload_n (pc := 0) (j := 0) dX12_cheapestCost_0 rfl rfl ?_
  refine jw_callV (pc := 1) (m2 := mX12_findCovers) (As := []) (st := []) dX12_cheapestCost_1 sM_0 (by decide) rfl rfl gm_X12_findCovers ml_X12_394 rfl (Nat.le_of_ble_eq_true rfl) (JC.mono h ?_)
  clear h
  rintro M1 _ ⟨rfl, h⟩
  refine jw_st (st' := []) rfl ?_
  refine jw_iconst (pc := 4) (v := 0) dX12_cheapestCost_4 rfl ?_
  refine jw_istore_n (pc := 5) (ls' := [(1, .int (0 : Int32)), (0, .ref (x.2.2.2 0))]) dX12_cheapestCost_5 rfl (by decide) rfl ?_
  exact jw_sub [1, 0] rfl h
set_option maxRecDepth 20000 in
theorem b_X12_cheapestCost_6 {x : jX} {d : Nat} {M : jM} {P : jM → Int32 → Prop} {l1 : Int32} 
    (h : JC x jtbM mX12_cells d [.ref (x.2.2.2 0)] M (jI fun M1 r1 => (r1 ≤ l1 → JC x jtbM mX12_allCells d [.ref (x.2.2.2 0)] M1 (jI fun M2 r2 => JC x jtbM mX12_leastCover d [.ref (x.2.2.2 0), .int r2] M2 (jI fun M3 r3 => P M3 r3))) ∧ (¬ r1 ≤ l1 → ∃ j1, j1 < 25 ∧ l1 = nI j1 ∧ (∃ j2, j2 < 2060 ∧ (28 : Int32) + l1 = nI j2 ∧ (∃ j3, j3 < 2060 ∧ (53 : Int32) + l1 = nI j3 ∧ (∀ M4, M4 = jrI M1 10 (upd (M1.1 10) j1 (((M1.1 9 j1) - (M1.1 5 j2)) * (M1.1 5 j3))) → JW x jtbM mX12_cheapestCost (d + 1) (jI P) 6 [(0, .ref (x.2.2.2 0)), (1, .int (l1 + 1))] [] M4)))))) :
    JW x jtbM mX12_cheapestCost (d + 1) (jI P) 6 [(0, .ref (x.2.2.2 0)), (1, .int l1)] [] M := by
  refine jw_iload_n (pc := 6) (j := 1) dX12_cheapestCost_6 rfl rfl ?_
  refine jw_aload_n (pc := 7) (j := 0) dX12_cheapestCost_7 rfl rfl ?_
  refine jw_callV (pc := 8) (m2 := mX12_cells) (As := []) (st := [.int l1]) dX12_cheapestCost_8 sM_0 (by decide) rfl rfl gm_X12_cells ml_X12_305 rfl (Nat.le_of_ble_eq_true rfl) (JC.mono h ?_)
  clear h
  rintro M1 _ ⟨r1, rfl, h⟩
  refine jw_st (st' := [.int r1, .int l1]) rfl ?_
  refine jw_icmp_ge (pc := 11) (tgt := 52) dX12_cheapestCost_11 (by decide) (fun c => ?_) (fun c => ?_)
  · replace h := h.1 c
    refine jw_aload_n (pc := 52) (j := 0) dX12_cheapestCost_52 rfl rfl ?_
    refine jw_aload_n (pc := 53) (j := 0) dX12_cheapestCost_53 rfl rfl ?_
    refine jw_callV (pc := 54) (m2 := mX12_allCells) (As := []) (st := [.ref (x.2.2.2 0)]) dX12_cheapestCost_54 sM_0 (by decide) rfl rfl gm_X12_allCells ml_X12_397 rfl (Nat.le_of_ble_eq_true rfl) (JC.mono h ?_)
    clear h
    rintro M2 _ ⟨r2, rfl, h⟩
    refine jw_st (st' := [.int r2, .ref (x.2.2.2 0)]) rfl ?_
    refine jw_callV (pc := 57) (m2 := mX12_leastCover) (As := [.int r2]) (st := []) dX12_cheapestCost_57 sM_0 (by decide) rfl rfl gm_X12_leastCover ml_X12_400 rfl (Nat.le_of_ble_eq_true rfl) (JC.mono h ?_)
    clear h
    rintro M3 _ ⟨r3, rfl, h⟩
    refine jw_st (st' := [.int r3]) rfl ?_
    exact jw_iret (pc := 60) dX12_cheapestCost_60 rfl ⟨_, rfl, h⟩
  · replace h := h.2 c
    refine jw_aload_n (pc := 14) (j := 0) dX12_cheapestCost_14 rfl rfl ?_
    refine jw_getR (pc := 15) (r := 10) dX12_cheapestCost_15 sM_0 fl_X12_51 (by decide) rfl rfl ?_
    refine jw_iload_n (pc := 18) (j := 1) dX12_cheapestCost_18 rfl rfl ?_
    refine jw_aload_n (pc := 19) (j := 0) dX12_cheapestCost_19 rfl rfl ?_
    refine jw_getR (pc := 20) (r := 9) dX12_cheapestCost_20 sM_0 fl_X12_48 (by decide) rfl rfl ?_
    refine jw_iload_n (pc := 23) (j := 1) dX12_cheapestCost_23 rfl rfl ?_
    obtain ⟨j1, hj1, ej1, h⟩ := h
    refine jw_iald (pc := 24) (j := j1) dX12_cheapestCost_24 sM_9 hj1 ej1 (by decide) ?_
    refine jw_aload_n (pc := 25) (j := 0) dX12_cheapestCost_25 rfl rfl ?_
    refine jw_getR (pc := 26) (r := 5) dX12_cheapestCost_26 sM_0 fl_X12_35 (by decide) rfl rfl ?_
    refine jw_bipush (pc := 29) (v := 28) dX12_cheapestCost_29 rfl ?_
    refine jw_iload_n (pc := 31) (j := 1) dX12_cheapestCost_31 rfl rfl ?_
    refine jw_iadd (pc := 32) dX12_cheapestCost_32 ?_
    obtain ⟨j2, hj2, ej2, h⟩ := h
    refine jw_iald (pc := 33) (j := j2) dX12_cheapestCost_33 sM_5 hj2 ej2 (by decide) ?_
    refine jw_isub (pc := 34) dX12_cheapestCost_34 ?_
    refine jw_aload_n (pc := 35) (j := 0) dX12_cheapestCost_35 rfl rfl ?_
    refine jw_getR (pc := 36) (r := 5) dX12_cheapestCost_36 sM_0 fl_X12_35 (by decide) rfl rfl ?_
    refine jw_bipush (pc := 39) (v := 53) dX12_cheapestCost_39 rfl ?_
    refine jw_iload_n (pc := 41) (j := 1) dX12_cheapestCost_41 rfl rfl ?_
    refine jw_iadd (pc := 42) dX12_cheapestCost_42 ?_
    obtain ⟨j3, hj3, ej3, h⟩ := h
    refine jw_iald (pc := 43) (j := j3) dX12_cheapestCost_43 sM_5 hj3 ej3 (by decide) ?_
    refine jw_imul (pc := 44) dX12_cheapestCost_44 ?_
    refine jw_iast (pc := 45) (j := j1) dX12_cheapestCost_45 sM_10 hj1 ej1 (by decide) ?_
    replace h := h _ rfl
    generalize jrI M1 10 (upd (M1.1 10) j1 (((M1.1 9 j1) - (M1.1 5 j2)) * (M1.1 5 j3))) = M4 at h ⊢
    refine jw_iinc (pc := 46) (j := 1) (u := l1 + 1) (ls' := [(1, .int (l1 + 1)), (0, .ref (x.2.2.2 0))]) dX12_cheapestCost_46 rfl rfl (by decide) rfl ?_
    refine jw_goto (pc := 49) (tgt := 6) dX12_cheapestCost_49 (by decide) ?_
    exact jw_sub [1, 0] rfl h
set_option maxRecDepth 20000 in
theorem b_X12_cheapest {x : jX} {d : Nat} {M : jM} {P : jM → Int32 → Prop} {a1 : Int32} 
    (h : ∀ M1, M1 = jrI M 0 (upd (M.1 0) 1 (0 : Int32)) → ∀ M2, M2 = jrI M1 0 (upd (M1.1 0) 0 (0 : Int32)) → JC x jtbM mX12_isSet d [.ref (x.2.2.2 0), .int a1] M2 (jZ fun M3 b1 => (b1 = true → JC x jtbM mX12_ask d [.ref (x.2.2.2 0), .int a1] M3 (jV fun M4 => JC x jtbM mX12_canKeep d [.ref (x.2.2.2 0)] M4 (jZ fun M5 b2 => (b2 = true → JC x jtbM mX12_cheapestCost d [.ref (x.2.2.2 0)] M5 (jI fun M6 r1 => JC x jtbM mX12_allCells d [.ref (x.2.2.2 0)] M6 (jI fun M7 r2 => JW x jtbM mX12_cheapest (d + 1) (jI P) 56 [(0, .ref (x.2.2.2 0)), (2, .int r1), (3, .int r2), (4, .int (0 : Int32))] [] M7))) ∧ (b2 = false → JC x jtbM mX12_refuse d [.ref (x.2.2.2 0), .int (9 : Int32)] M5 (jI fun M8 r3 => P M8 r3))))) ∧ (b1 = false → JC x jtbM mX12_refuse d [.ref (x.2.2.2 0), .int (2 : Int32)] M3 (jI fun M9 r4 => P M9 r4)))) :
    JC x jtbM mX12_cheapest (d + 1) [.ref (x.2.2.2 0), .int a1] M (jI P) := by
  refine JC.of rfl (Nat.le_of_ble_eq_true rfl) ?_
  refine jw_ls (ls' := [(0, .ref (x.2.2.2 0)), (1, .int a1)]) rfl ?_
  refine jw_aload_n (pc := 0) (j := 0) dX12_cheapest_0 rfl rfl ?_
  refine jw_iconst (pc := 1) (v := 0) dX12_cheapest_1 rfl ?_
  refine jw_putI (pc := 2) dX12_cheapest_2 sM_0 fl_X12_81 fw_12_1 (by decide) rfl ?_
  replace h := h _ rfl
  generalize jrI M 0 (upd (M.1 0) 1 (0 : Int32)) = M1 at h ⊢
  refine jw_aload_n (pc := 5) (j := 0) dX12_cheapest_5 rfl rfl ?_
  refine jw_iconst (pc := 6) (v := 0) dX12_cheapest_6 rfl ?_
  refine jw_putI (pc := 7) dX12_cheapest_7 sM_0 fl_X12_84 fw_12_0 (by decide) rfl ?_
  replace h := h _ rfl
  generalize jrI M1 0 (upd (M1.1 0) 0 (0 : Int32)) = M2 at h ⊢
  refine jw_aload_n (pc := 10) (j := 0) dX12_cheapest_10 rfl rfl ?_
  refine jw_iload_n (pc := 11) (j := 1) dX12_cheapest_11 rfl rfl ?_
  refine jw_callV (pc := 12) (m2 := mX12_isSet) (As := [.int a1]) (st := []) dX12_cheapest_12 sM_0 (by decide) rfl rfl gm_X12_isSet ml_X12_369 rfl (Nat.le_of_ble_eq_true rfl) (JC.mono h ?_)
  clear h
  rintro M3 _ ⟨b1, rfl, h⟩
  refine jw_st (st' := [.int (jb b1)]) rfl ?_
  refine jw_if_ne (pc := 15) (tgt := 24) dX12_cheapest_15 (by decide) (fun c => ?_) (fun c => ?_)
  · replace h := h.1 (jb_ne c)
    refine jw_aload_n (pc := 24) (j := 0) dX12_cheapest_24 rfl rfl ?_
    refine jw_iload_n (pc := 25) (j := 1) dX12_cheapest_25 rfl rfl ?_
    refine jw_callV (pc := 26) (m2 := mX12_ask) (As := [.int a1]) (st := []) dX12_cheapest_26 sM_0 (by decide) rfl rfl gm_X12_ask ml_X12_372 rfl (Nat.le_of_ble_eq_true rfl) (JC.mono h ?_)
    clear h
    rintro M4 _ ⟨rfl, h⟩
    refine jw_st (st' := []) rfl ?_
    refine jw_aload_n (pc := 29) (j := 0) dX12_cheapest_29 rfl rfl ?_
    refine jw_callV (pc := 30) (m2 := mX12_canKeep) (As := []) (st := []) dX12_cheapest_30 sM_0 (by decide) rfl rfl gm_X12_canKeep ml_X12_375 rfl (Nat.le_of_ble_eq_true rfl) (JC.mono h ?_)
    clear h
    rintro M5 _ ⟨b2, rfl, h⟩
    refine jw_st (st' := [.int (jb b2)]) rfl ?_
    refine jw_if_ne (pc := 33) (tgt := 43) dX12_cheapest_33 (by decide) (fun c => ?_) (fun c => ?_)
    · replace h := h.1 (jb_ne c)
      refine jw_aload_n (pc := 43) (j := 0) dX12_cheapest_43 rfl rfl ?_
      refine jw_callV (pc := 44) (m2 := mX12_cheapestCost) (As := []) (st := []) dX12_cheapest_44 sM_0 (by decide) rfl rfl gm_X12_cheapestCost ml_X12_403 rfl (Nat.le_of_ble_eq_true rfl) (JC.mono h ?_)
      clear h
      rintro M6 _ ⟨r1, rfl, h⟩
      refine jw_st (st' := [.int r1]) rfl ?_
      refine jw_istore_n (pc := 47) (ls' := [(2, .int r1), (0, .ref (x.2.2.2 0)), (1, .int a1)]) dX12_cheapest_47 rfl (by decide) rfl ?_
      refine jw_aload_n (pc := 48) (j := 1) dX12_cheapest_48 rfl rfl ?_
      refine jw_callV (pc := 49) (m2 := mX12_allCells) (As := []) (st := []) dX12_cheapest_49 sM_0 (by decide) rfl rfl gm_X12_allCells ml_X12_397 rfl (Nat.le_of_ble_eq_true rfl) (JC.mono h ?_)
      clear h
      rintro M7 _ ⟨r2, rfl, h⟩
      refine jw_st (st' := [.int r2]) rfl ?_
      refine jw_istore_n (pc := 52) (ls' := [(3, .int r2), (2, .int r1), (0, .ref (x.2.2.2 0)), (1, .int a1)]) dX12_cheapest_52 rfl (by decide) rfl ?_
      refine jw_iconst (pc := 53) (v := 0) dX12_cheapest_53 rfl ?_
      refine jw_istore (pc := 54) (ls' := [(4, .int (0 : Int32)), (3, .int r2), (2, .int r1), (0, .ref (x.2.2.2 0)), (1, .int a1)]) dX12_cheapest_54 (by decide) rfl ?_
      exact jw_sub [3, 2, 1, 0] rfl h
    · replace h := h.2 ((jb_0 _).mp c)
      refine jw_aload_n (pc := 36) (j := 0) dX12_cheapest_36 rfl rfl ?_
      refine jw_bipush (pc := 37) (v := 9) dX12_cheapest_37 rfl ?_
      refine jw_callV (pc := 39) (m2 := mX12_refuse) (As := [.int (9 : Int32)]) (st := []) dX12_cheapest_39 sM_0 (by decide) rfl rfl gm_X12_refuse ml_X12_316 rfl (Nat.le_of_ble_eq_true rfl) (JC.mono h ?_)
      clear h
      rintro M8 _ ⟨r3, rfl, h⟩
      refine jw_st (st' := [.int r3]) rfl ?_
      exact jw_iret (pc := 42) dX12_cheapest_42 rfl ⟨_, rfl, h⟩
  · replace h := h.2 ((jb_0 _).mp c)
    refine jw_aload_n (pc := 18) (j := 0) dX12_cheapest_18 rfl rfl ?_
    refine jw_iconst (pc := 19) (v := 2) dX12_cheapest_19 rfl ?_
    refine jw_callV (pc := 20) (m2 := mX12_refuse) (As := [.int (2 : Int32)]) (st := []) dX12_cheapest_20 sM_0 (by decide) rfl rfl gm_X12_refuse ml_X12_316 rfl (Nat.le_of_ble_eq_true rfl) (JC.mono h ?_)
    clear h
    rintro M9 _ ⟨r4, rfl, h⟩
    refine jw_st (st' := [.int r4]) rfl ?_
    exact jw_iret (pc := 23) dX12_cheapest_23 rfl ⟨_, rfl, h⟩
set_option maxRecDepth 20000 in
theorem b_X12_cheapest_56 {x : jX} {d : Nat} {M : jM} {P : jM → Int32 → Prop} {l2 : Int32} {l3 : Int32} {l4 : Int32} 
    (h : JC x jtbM mX12_cells d [.ref (x.2.2.2 0)] M (jI fun M1 r1 => (r1 ≤ l4 → P M1 l2) ∧ (¬ r1 ≤ l4 → ∃ j1, j1 < 25 ∧ l4 = nI j1 ∧ (∃ j2, j2 < 2060 ∧ (28 : Int32) + l4 = nI j2 ∧ (((M1.1 9 j1) = (M1.1 5 j2) → ((1 : Int32) = 0 → JW x jtbM mX12_cheapest (d + 1) (jI P) 120 [(0, .ref (x.2.2.2 0)), (2, .int l2), (3, .int l3), (4, .int l4), (6, .int (1 : Int32))] [] M1) ∧ (¬ (1 : Int32) = 0 → JW x jtbM mX12_cheapest (d + 1) (jI P) 120 [(0, .ref (x.2.2.2 0)), (2, .int l2), (3, .int (l3 &&& (((1 : Int32) <<< (l4 &&& 31)) ^^^ (-1 : Int32)))), (4, .int l4), (6, .int (1 : Int32))] [] M1)) ∧ (¬ (M1.1 9 j1) = (M1.1 5 j2) → JC x jtbM mX12_leastCover d [.ref (x.2.2.2 0), .int (l3 &&& (((1 : Int32) <<< (l4 &&& 31)) ^^^ (-1 : Int32)))] M1 (jI fun M2 r2 => (¬ r2 = l2 → ((0 : Int32) = 0 → JW x jtbM mX12_cheapest (d + 1) (jI P) 120 [(0, .ref (x.2.2.2 0)), (2, .int l2), (3, .int l3), (4, .int l4), (6, .int (0 : Int32))] [] M2) ∧ (¬ (0 : Int32) = 0 → JW x jtbM mX12_cheapest (d + 1) (jI P) 120 [(0, .ref (x.2.2.2 0)), (2, .int l2), (3, .int (l3 &&& (((1 : Int32) <<< (l4 &&& 31)) ^^^ (-1 : Int32)))), (4, .int l4), (6, .int (0 : Int32))] [] M2)) ∧ (r2 = l2 → ((1 : Int32) = 0 → JW x jtbM mX12_cheapest (d + 1) (jI P) 120 [(0, .ref (x.2.2.2 0)), (2, .int l2), (3, .int l3), (4, .int l4), (6, .int (1 : Int32))] [] M2) ∧ (¬ (1 : Int32) = 0 → JW x jtbM mX12_cheapest (d + 1) (jI P) 120 [(0, .ref (x.2.2.2 0)), (2, .int l2), (3, .int (l3 &&& (((1 : Int32) <<< (l4 &&& 31)) ^^^ (-1 : Int32)))), (4, .int l4), (6, .int (1 : Int32))] [] M2))))))))) :
    JW x jtbM mX12_cheapest (d + 1) (jI P) 56 [(0, .ref (x.2.2.2 0)), (2, .int l2), (3, .int l3), (4, .int l4)] [] M := by
  refine jw_iload (pc := 56) (j := 3) dX12_cheapest_56 rfl ?_
  refine jw_aload_n (pc := 58) (j := 0) dX12_cheapest_58 rfl rfl ?_
  refine jw_callV (pc := 59) (m2 := mX12_cells) (As := []) (st := [.int l4]) dX12_cheapest_59 sM_0 (by decide) rfl rfl gm_X12_cells ml_X12_305 rfl (Nat.le_of_ble_eq_true rfl) (JC.mono h ?_)
  clear h
  rintro M1 _ ⟨r1, rfl, h⟩
  refine jw_st (st' := [.int r1, .int l4]) rfl ?_
  refine jw_icmp_ge (pc := 62) (tgt := 162) dX12_cheapest_62 (by decide) (fun c => ?_) (fun c => ?_)
  · replace h := h.1 c
    refine jw_iload_n (pc := 162) (j := 1) dX12_cheapest_162 rfl rfl ?_
    exact jw_iret (pc := 163) dX12_cheapest_163 rfl ⟨_, rfl, h⟩
  · replace h := h.2 c
    refine jw_iload_n (pc := 65) (j := 2) dX12_cheapest_65 rfl rfl ?_
    refine jw_iconst (pc := 66) (v := 1) dX12_cheapest_66 rfl ?_
    refine jw_iload (pc := 67) (j := 3) dX12_cheapest_67 rfl ?_
    refine jw_ishl (pc := 69) dX12_cheapest_69 ?_
    refine jw_iconst (pc := 70) (v := (-1)) dX12_cheapest_70 rfl ?_
    refine jw_ixor (pc := 71) dX12_cheapest_71 ?_
    refine jw_iand (pc := 72) dX12_cheapest_72 ?_
    refine jw_istore (pc := 73) (ls' := [(5, .int (l3 &&& (((1 : Int32) <<< (l4 &&& 31)) ^^^ (-1 : Int32)))), (0, .ref (x.2.2.2 0)), (2, .int l2), (3, .int l3), (4, .int l4)]) dX12_cheapest_73 (by decide) rfl ?_
    refine jw_aload_n (pc := 75) (j := 1) dX12_cheapest_75 rfl rfl ?_
    refine jw_getR (pc := 76) (r := 9) dX12_cheapest_76 sM_0 fl_X12_48 (by decide) rfl rfl ?_
    refine jw_iload (pc := 79) (j := 4) dX12_cheapest_79 rfl ?_
    obtain ⟨j1, hj1, ej1, h⟩ := h
    refine jw_iald (pc := 81) (j := j1) dX12_cheapest_81 sM_9 hj1 ej1 (by decide) ?_
    refine jw_aload_n (pc := 82) (j := 1) dX12_cheapest_82 rfl rfl ?_
    refine jw_getR (pc := 83) (r := 5) dX12_cheapest_83 sM_0 fl_X12_35 (by decide) rfl rfl ?_
    refine jw_bipush (pc := 86) (v := 28) dX12_cheapest_86 rfl ?_
    refine jw_iload (pc := 88) (j := 4) dX12_cheapest_88 rfl ?_
    refine jw_iadd (pc := 90) dX12_cheapest_90 ?_
    obtain ⟨j2, hj2, ej2, h⟩ := h
    refine jw_iald (pc := 91) (j := j2) dX12_cheapest_91 sM_5 hj2 ej2 (by decide) ?_
    refine jw_icmp_eq (pc := 92) (tgt := 105) dX12_cheapest_92 (by decide) (fun c => ?_) (fun c => ?_)
    · replace h := h.1 c
      refine jw_iconst (pc := 105) (v := 1) dX12_cheapest_105 rfl ?_
      refine jw_goto (pc := 106) (tgt := 110) dX12_cheapest_106 (by decide) ?_
      refine jw_istore (pc := 110) (ls' := [(6, .int (1 : Int32)), (5, .int (l3 &&& (((1 : Int32) <<< (l4 &&& 31)) ^^^ (-1 : Int32)))), (0, .ref (x.2.2.2 0)), (2, .int l2), (3, .int l3), (4, .int l4)]) dX12_cheapest_110 (by decide) rfl ?_
      refine jw_iload (pc := 112) (j := 0) dX12_cheapest_112 rfl ?_
      refine jw_if_eq (pc := 114) (tgt := 120) dX12_cheapest_114 (by decide) (fun c => ?_) (fun c => ?_)
      · replace h := h.1 c
        exact jw_sub [2, 3, 4, 5, 0] rfl h
      · replace h := h.2 c
        refine jw_iload (pc := 117) (j := 1) dX12_cheapest_117 rfl ?_
        refine jw_istore_n (pc := 119) (ls' := [(3, .int (l3 &&& (((1 : Int32) <<< (l4 &&& 31)) ^^^ (-1 : Int32)))), (6, .int (1 : Int32)), (5, .int (l3 &&& (((1 : Int32) <<< (l4 &&& 31)) ^^^ (-1 : Int32)))), (0, .ref (x.2.2.2 0)), (2, .int l2), (4, .int l4)]) dX12_cheapest_119 rfl (by decide) rfl ?_
        exact jw_sub [3, 4, 0, 5, 1] rfl h
    · replace h := h.2 c
      refine jw_aload_n (pc := 95) (j := 1) dX12_cheapest_95 rfl rfl ?_
      refine jw_iload (pc := 96) (j := 0) dX12_cheapest_96 rfl ?_
      refine jw_callV (pc := 98) (m2 := mX12_leastCover) (As := [.int (l3 &&& (((1 : Int32) <<< (l4 &&& 31)) ^^^ (-1 : Int32)))]) (st := []) dX12_cheapest_98 sM_0 (by decide) rfl rfl gm_X12_leastCover ml_X12_400 rfl (Nat.le_of_ble_eq_true rfl) (JC.mono h ?_)
      clear h
      rintro M2 _ ⟨r2, rfl, h⟩
      refine jw_st (st' := [.int r2]) rfl ?_
      refine jw_iload_n (pc := 101) (j := 2) dX12_cheapest_101 rfl rfl ?_
      refine jw_icmp_ne (pc := 102) (tgt := 109) dX12_cheapest_102 (by decide) (fun c => ?_) (fun c => ?_)
      · replace h := h.1 c
        refine jw_iconst (pc := 109) (v := 0) dX12_cheapest_109 rfl ?_
        refine jw_istore (pc := 110) (ls' := [(6, .int (0 : Int32)), (5, .int (l3 &&& (((1 : Int32) <<< (l4 &&& 31)) ^^^ (-1 : Int32)))), (0, .ref (x.2.2.2 0)), (2, .int l2), (3, .int l3), (4, .int l4)]) dX12_cheapest_110 (by decide) rfl ?_
        refine jw_iload (pc := 112) (j := 0) dX12_cheapest_112 rfl ?_
        refine jw_if_eq (pc := 114) (tgt := 120) dX12_cheapest_114 (by decide) (fun c => ?_) (fun c => ?_)
        · replace h := h.1 c
          exact jw_sub [2, 3, 4, 5, 0] rfl h
        · replace h := h.2 c
          refine jw_iload (pc := 117) (j := 1) dX12_cheapest_117 rfl ?_
          refine jw_istore_n (pc := 119) (ls' := [(3, .int (l3 &&& (((1 : Int32) <<< (l4 &&& 31)) ^^^ (-1 : Int32)))), (6, .int (0 : Int32)), (5, .int (l3 &&& (((1 : Int32) <<< (l4 &&& 31)) ^^^ (-1 : Int32)))), (0, .ref (x.2.2.2 0)), (2, .int l2), (4, .int l4)]) dX12_cheapest_119 rfl (by decide) rfl ?_
          exact jw_sub [3, 4, 0, 5, 1] rfl h
      · replace h := h.2 c
        refine jw_iconst (pc := 105) (v := 1) dX12_cheapest_105 rfl ?_
        refine jw_goto (pc := 106) (tgt := 110) dX12_cheapest_106 (by decide) ?_
        refine jw_istore (pc := 110) (ls' := [(6, .int (1 : Int32)), (5, .int (l3 &&& (((1 : Int32) <<< (l4 &&& 31)) ^^^ (-1 : Int32)))), (0, .ref (x.2.2.2 0)), (2, .int l2), (3, .int l3), (4, .int l4)]) dX12_cheapest_110 (by decide) rfl ?_
        refine jw_iload (pc := 112) (j := 0) dX12_cheapest_112 rfl ?_
        refine jw_if_eq (pc := 114) (tgt := 120) dX12_cheapest_114 (by decide) (fun c => ?_) (fun c => ?_)
        · replace h := h.1 c
          exact jw_sub [2, 3, 4, 5, 0] rfl h
        · replace h := h.2 c
          refine jw_iload (pc := 117) (j := 1) dX12_cheapest_117 rfl ?_
          refine jw_istore_n (pc := 119) (ls' := [(3, .int (l3 &&& (((1 : Int32) <<< (l4 &&& 31)) ^^^ (-1 : Int32)))), (6, .int (1 : Int32)), (5, .int (l3 &&& (((1 : Int32) <<< (l4 &&& 31)) ^^^ (-1 : Int32)))), (0, .ref (x.2.2.2 0)), (2, .int l2), (4, .int l4)]) dX12_cheapest_119 rfl (by decide) rfl ?_
          exact jw_sub [3, 4, 0, 5, 1] rfl h
set_option maxRecDepth 20000 in
theorem b_X12_cheapest_120 {x : jX} {d : Nat} {M : jM} {P : jM → Int32 → Prop} {l2 : Int32} {l3 : Int32} {l4 : Int32} {l6 : Int32} 
    (h : (l6 = 0 → ∃ j1, j1 < 25 ∧ l4 = nI j1 ∧ (∃ j2, j2 < 2060 ∧ (144 : Int32) + l4 = nI j2 ∧ (∀ M1, M1 = jrI M 5 (upd (M.1 5) j2 (M.1 9 j1)) → JW x jtbM mX12_cheapest (d + 1) (jI P) 56 [(0, .ref (x.2.2.2 0)), (2, .int l2), (3, .int l3), (4, .int (l4 + 1))] [] M1))) ∧ (¬ l6 = 0 → ∃ j3, j3 < 2060 ∧ (28 : Int32) + l4 = nI j3 ∧ (∃ j4, j4 < 2060 ∧ (144 : Int32) + l4 = nI j4 ∧ (∀ M2, M2 = jrI M 5 (upd (M.1 5) j4 (M.1 5 j3)) → JW x jtbM mX12_cheapest (d + 1) (jI P) 56 [(0, .ref (x.2.2.2 0)), (2, .int l2), (3, .int l3), (4, .int (l4 + 1))] [] M2)))) :
    JW x jtbM mX12_cheapest (d + 1) (jI P) 120 [(0, .ref (x.2.2.2 0)), (2, .int l2), (3, .int l3), (4, .int l4), (6, .int l6)] [] M := by
  refine jw_aload_n (pc := 120) (j := 0) dX12_cheapest_120 rfl rfl ?_
  refine jw_getR (pc := 121) (r := 5) dX12_cheapest_121 sM_0 fl_X12_35 (by decide) rfl rfl ?_
  refine jw_sipush (pc := 124) (v := 144) dX12_cheapest_124 rfl ?_
  refine jw_iload (pc := 127) (j := 3) dX12_cheapest_127 rfl ?_
  refine jw_iadd (pc := 129) dX12_cheapest_129 ?_
  refine jw_iload (pc := 130) (j := 4) dX12_cheapest_130 rfl ?_
  refine jw_if_eq (pc := 132) (tgt := 148) dX12_cheapest_132 (by decide) (fun c => ?_) (fun c => ?_)
  · replace h := h.1 c
    refine jw_aload_n (pc := 148) (j := 0) dX12_cheapest_148 rfl rfl ?_
    refine jw_getR (pc := 149) (r := 9) dX12_cheapest_149 sM_0 fl_X12_48 (by decide) rfl rfl ?_
    refine jw_iload (pc := 152) (j := 3) dX12_cheapest_152 rfl ?_
    obtain ⟨j1, hj1, ej1, h⟩ := h
    refine jw_iald (pc := 154) (j := j1) dX12_cheapest_154 sM_9 hj1 ej1 (by decide) ?_
    obtain ⟨j2, hj2, ej2, h⟩ := h
    refine jw_iast (pc := 155) (j := j2) dX12_cheapest_155 sM_5 hj2 ej2 (by decide) ?_
    replace h := h _ rfl
    generalize jrI M 5 (upd (M.1 5) j2 (M.1 9 j1)) = M1 at h ⊢
    refine jw_iinc (pc := 156) (j := 3) (u := l4 + 1) (ls' := [(4, .int (l4 + 1)), (0, .ref (x.2.2.2 0)), (2, .int l2), (3, .int l3), (6, .int l6)]) dX12_cheapest_156 rfl rfl (by decide) rfl ?_
    refine jw_goto (pc := 159) (tgt := 56) dX12_cheapest_159 (by decide) ?_
    exact jw_sub [1, 2, 3, 0] rfl h
  · replace h := h.2 c
    refine jw_aload_n (pc := 135) (j := 0) dX12_cheapest_135 rfl rfl ?_
    refine jw_getR (pc := 136) (r := 5) dX12_cheapest_136 sM_0 fl_X12_35 (by decide) rfl rfl ?_
    refine jw_bipush (pc := 139) (v := 28) dX12_cheapest_139 rfl ?_
    refine jw_iload (pc := 141) (j := 3) dX12_cheapest_141 rfl ?_
    refine jw_iadd (pc := 143) dX12_cheapest_143 ?_
    obtain ⟨j3, hj3, ej3, h⟩ := h
    refine jw_iald (pc := 144) (j := j3) dX12_cheapest_144 sM_5 hj3 ej3 (by decide) ?_
    refine jw_goto (pc := 145) (tgt := 155) dX12_cheapest_145 (by decide) ?_
    obtain ⟨j4, hj4, ej4, h⟩ := h
    refine jw_iast (pc := 155) (j := j4) dX12_cheapest_155 sM_5 hj4 ej4 (by decide) ?_
    replace h := h _ rfl
    generalize jrI M 5 (upd (M.1 5) j4 (M.1 5 j3)) = M2 at h ⊢
    refine jw_iinc (pc := 156) (j := 3) (u := l4 + 1) (ls' := [(4, .int (l4 + 1)), (0, .ref (x.2.2.2 0)), (2, .int l2), (3, .int l3), (6, .int l6)]) dX12_cheapest_156 rfl rfl (by decide) rfl ?_
    refine jw_goto (pc := 159) (tgt := 56) dX12_cheapest_159 (by decide) ?_
    exact jw_sub [1, 2, 3, 0] rfl h
set_option maxRecDepth 20000 in
theorem b_X12_least {x : jX} {d : Nat} {M : jM} {P : jM → Int32 → Prop} {a1 : Int32} 
    (h : ∀ M1, M1 = jrI M 0 (upd (M.1 0) 1 (0 : Int32)) → ∀ M2, M2 = jrI M1 0 (upd (M1.1 0) 0 (0 : Int32)) → JC x jtbM mX12_isSet d [.ref (x.2.2.2 0), .int a1] M2 (jZ fun M3 b1 => (b1 = true → JC x jtbM mX12_ask d [.ref (x.2.2.2 0), .int a1] M3 (jV fun M4 => JC x jtbM mX12_canKeep d [.ref (x.2.2.2 0)] M4 (jZ fun M5 b2 => (b2 = true → JW x jtbM mX12_least (d + 1) (jI P) 47 [(0, .ref (x.2.2.2 0)), (2, .int (0 : Int32)), (3, .int (0 : Int32))] [] M5) ∧ (b2 = false → JC x jtbM mX12_refuse d [.ref (x.2.2.2 0), .int (9 : Int32)] M5 (jI fun M6 r1 => P M6 r1))))) ∧ (b1 = false → JC x jtbM mX12_refuse d [.ref (x.2.2.2 0), .int (2 : Int32)] M3 (jI fun M7 r2 => P M7 r2)))) :
    JC x jtbM mX12_least (d + 1) [.ref (x.2.2.2 0), .int a1] M (jI P) := by
  refine JC.of rfl (Nat.le_of_ble_eq_true rfl) ?_
  refine jw_ls (ls' := [(0, .ref (x.2.2.2 0)), (1, .int a1)]) rfl ?_
  refine jw_aload_n (pc := 0) (j := 0) dX12_least_0 rfl rfl ?_
  refine jw_iconst (pc := 1) (v := 0) dX12_least_1 rfl ?_
  refine jw_putI (pc := 2) dX12_least_2 sM_0 fl_X12_81 fw_12_1 (by decide) rfl ?_
  replace h := h _ rfl
  generalize jrI M 0 (upd (M.1 0) 1 (0 : Int32)) = M1 at h ⊢
  refine jw_aload_n (pc := 5) (j := 0) dX12_least_5 rfl rfl ?_
  refine jw_iconst (pc := 6) (v := 0) dX12_least_6 rfl ?_
  refine jw_putI (pc := 7) dX12_least_7 sM_0 fl_X12_84 fw_12_0 (by decide) rfl ?_
  replace h := h _ rfl
  generalize jrI M1 0 (upd (M1.1 0) 0 (0 : Int32)) = M2 at h ⊢
  refine jw_aload_n (pc := 10) (j := 0) dX12_least_10 rfl rfl ?_
  refine jw_iload_n (pc := 11) (j := 1) dX12_least_11 rfl rfl ?_
  refine jw_callV (pc := 12) (m2 := mX12_isSet) (As := [.int a1]) (st := []) dX12_least_12 sM_0 (by decide) rfl rfl gm_X12_isSet ml_X12_369 rfl (Nat.le_of_ble_eq_true rfl) (JC.mono h ?_)
  clear h
  rintro M3 _ ⟨b1, rfl, h⟩
  refine jw_st (st' := [.int (jb b1)]) rfl ?_
  refine jw_if_ne (pc := 15) (tgt := 24) dX12_least_15 (by decide) (fun c => ?_) (fun c => ?_)
  · replace h := h.1 (jb_ne c)
    refine jw_aload_n (pc := 24) (j := 0) dX12_least_24 rfl rfl ?_
    refine jw_iload_n (pc := 25) (j := 1) dX12_least_25 rfl rfl ?_
    refine jw_callV (pc := 26) (m2 := mX12_ask) (As := [.int a1]) (st := []) dX12_least_26 sM_0 (by decide) rfl rfl gm_X12_ask ml_X12_372 rfl (Nat.le_of_ble_eq_true rfl) (JC.mono h ?_)
    clear h
    rintro M4 _ ⟨rfl, h⟩
    refine jw_st (st' := []) rfl ?_
    refine jw_aload_n (pc := 29) (j := 0) dX12_least_29 rfl rfl ?_
    refine jw_callV (pc := 30) (m2 := mX12_canKeep) (As := []) (st := []) dX12_least_30 sM_0 (by decide) rfl rfl gm_X12_canKeep ml_X12_375 rfl (Nat.le_of_ble_eq_true rfl) (JC.mono h ?_)
    clear h
    rintro M5 _ ⟨b2, rfl, h⟩
    refine jw_st (st' := [.int (jb b2)]) rfl ?_
    refine jw_if_ne (pc := 33) (tgt := 43) dX12_least_33 (by decide) (fun c => ?_) (fun c => ?_)
    · replace h := h.1 (jb_ne c)
      refine jw_iconst (pc := 43) (v := 0) dX12_least_43 rfl ?_
      refine jw_istore_n (pc := 44) (ls' := [(2, .int (0 : Int32)), (0, .ref (x.2.2.2 0)), (1, .int a1)]) dX12_least_44 rfl (by decide) rfl ?_
      refine jw_iconst (pc := 45) (v := 0) dX12_least_45 rfl ?_
      refine jw_istore_n (pc := 46) (ls' := [(3, .int (0 : Int32)), (2, .int (0 : Int32)), (0, .ref (x.2.2.2 0)), (1, .int a1)]) dX12_least_46 rfl (by decide) rfl ?_
      exact jw_sub [2, 1, 0] rfl h
    · replace h := h.2 ((jb_0 _).mp c)
      refine jw_aload_n (pc := 36) (j := 0) dX12_least_36 rfl rfl ?_
      refine jw_bipush (pc := 37) (v := 9) dX12_least_37 rfl ?_
      refine jw_callV (pc := 39) (m2 := mX12_refuse) (As := [.int (9 : Int32)]) (st := []) dX12_least_39 sM_0 (by decide) rfl rfl gm_X12_refuse ml_X12_316 rfl (Nat.le_of_ble_eq_true rfl) (JC.mono h ?_)
      clear h
      rintro M6 _ ⟨r1, rfl, h⟩
      refine jw_st (st' := [.int r1]) rfl ?_
      exact jw_iret (pc := 42) dX12_least_42 rfl ⟨_, rfl, h⟩
  · replace h := h.2 ((jb_0 _).mp c)
    refine jw_aload_n (pc := 18) (j := 0) dX12_least_18 rfl rfl ?_
    refine jw_iconst (pc := 19) (v := 2) dX12_least_19 rfl ?_
    refine jw_callV (pc := 20) (m2 := mX12_refuse) (As := [.int (2 : Int32)]) (st := []) dX12_least_20 sM_0 (by decide) rfl rfl gm_X12_refuse ml_X12_316 rfl (Nat.le_of_ble_eq_true rfl) (JC.mono h ?_)
    clear h
    rintro M7 _ ⟨r2, rfl, h⟩
    refine jw_st (st' := [.int r2]) rfl ?_
    exact jw_iret (pc := 23) dX12_least_23 rfl ⟨_, rfl, h⟩
set_option maxRecDepth 20000 in
theorem b_X12_least_47 {x : jX} {d : Nat} {M : jM} {P : jM → Int32 → Prop} {l2 : Int32} {l3 : Int32} 
    (h : JC x jtbM mX12_cells d [.ref (x.2.2.2 0)] M (jI fun M1 r1 => (r1 ≤ l3 → JC x jtbM mX12_cheapestCost d [.ref (x.2.2.2 0)] M1 (jI fun M2 r2 => (l2 ≤ 0 → P M2 r2) ∧ (¬ l2 ≤ 0 → JC x jtbM mX12_fraction d [.ref (x.2.2.2 0), .long r2.toInt64, .long l2.toInt64] M2 (jZ fun M3 b1 => P M3 r2)))) ∧ (¬ r1 ≤ l3 → ∃ j1, j1 < 25 ∧ l3 = nI j1 ∧ (∃ j2, j2 < 2060 ∧ (28 : Int32) + l3 = nI j2 ∧ (∃ j3, j3 < 2060 ∧ (53 : Int32) + l3 = nI j3 ∧ (JW x jtbM mX12_least (d + 1) (jI P) 47 [(0, .ref (x.2.2.2 0)), (2, .int (l2 + (((M1.1 9 j1) - (M1.1 5 j2)) * (M1.1 5 j3)))), (3, .int (l3 + 1))] [] M1)))))) :
    JW x jtbM mX12_least (d + 1) (jI P) 47 [(0, .ref (x.2.2.2 0)), (2, .int l2), (3, .int l3)] [] M := by
  refine jw_iload_n (pc := 47) (j := 2) dX12_least_47 rfl rfl ?_
  refine jw_aload_n (pc := 48) (j := 0) dX12_least_48 rfl rfl ?_
  refine jw_callV (pc := 49) (m2 := mX12_cells) (As := []) (st := [.int l3]) dX12_least_49 sM_0 (by decide) rfl rfl gm_X12_cells ml_X12_305 rfl (Nat.le_of_ble_eq_true rfl) (JC.mono h ?_)
  clear h
  rintro M1 _ ⟨r1, rfl, h⟩
  refine jw_st (st' := [.int r1, .int l3]) rfl ?_
  refine jw_icmp_ge (pc := 52) (tgt := 90) dX12_least_52 (by decide) (fun c => ?_) (fun c => ?_)
  · replace h := h.1 c
    refine jw_aload_n (pc := 90) (j := 0) dX12_least_90 rfl rfl ?_
    refine jw_callV (pc := 91) (m2 := mX12_cheapestCost) (As := []) (st := []) dX12_least_91 sM_0 (by decide) rfl rfl gm_X12_cheapestCost ml_X12_403 rfl (Nat.le_of_ble_eq_true rfl) (JC.mono h ?_)
    clear h
    rintro M2 _ ⟨r2, rfl, h⟩
    refine jw_st (st' := [.int r2]) rfl ?_
    refine jw_istore_n (pc := 94) (ls' := [(3, .int r2), (0, .ref (x.2.2.2 0)), (2, .int l2)]) dX12_least_94 rfl (by decide) rfl ?_
    refine jw_iload_n (pc := 95) (j := 2) dX12_least_95 rfl rfl ?_
    refine jw_if_le (pc := 96) (tgt := 108) dX12_least_96 (by decide) (fun c => ?_) (fun c => ?_)
    · replace h := h.1 c
      refine jw_iload_n (pc := 108) (j := 0) dX12_least_108 rfl rfl ?_
      exact jw_iret (pc := 109) dX12_least_109 rfl ⟨_, rfl, h⟩
    · replace h := h.2 c
      refine jw_aload_n (pc := 99) (j := 1) dX12_least_99 rfl rfl ?_
      refine jw_iload_n (pc := 100) (j := 0) dX12_least_100 rfl rfl ?_
      refine jw_i2l (pc := 101) dX12_least_101 ?_
      refine jw_iload_n (pc := 102) (j := 2) dX12_least_102 rfl rfl ?_
      refine jw_i2l (pc := 103) dX12_least_103 ?_
      refine jw_callV (pc := 104) (m2 := mX12_fraction) (As := [.long r2.toInt64, .long l2.toInt64]) (st := []) dX12_least_104 sM_0 (by decide) rfl rfl gm_X12_fraction ml_X12_406 rfl (Nat.le_of_ble_eq_true rfl) (JC.mono h ?_)
      clear h
      rintro M3 _ ⟨b1, rfl, h⟩
      refine jw_st (st' := [.int (jb b1)]) rfl ?_
      refine jw_pop (pc := 107) dX12_least_107 rfl ?_
      refine jw_iload_n (pc := 108) (j := 0) dX12_least_108 rfl rfl ?_
      exact jw_iret (pc := 109) dX12_least_109 rfl ⟨_, rfl, h⟩
  · replace h := h.2 c
    refine jw_iload_n (pc := 55) (j := 1) dX12_least_55 rfl rfl ?_
    refine jw_aload_n (pc := 56) (j := 0) dX12_least_56 rfl rfl ?_
    refine jw_getR (pc := 57) (r := 9) dX12_least_57 sM_0 fl_X12_48 (by decide) rfl rfl ?_
    refine jw_iload_n (pc := 60) (j := 2) dX12_least_60 rfl rfl ?_
    obtain ⟨j1, hj1, ej1, h⟩ := h
    refine jw_iald (pc := 61) (j := j1) dX12_least_61 sM_9 hj1 ej1 (by decide) ?_
    refine jw_aload_n (pc := 62) (j := 0) dX12_least_62 rfl rfl ?_
    refine jw_getR (pc := 63) (r := 5) dX12_least_63 sM_0 fl_X12_35 (by decide) rfl rfl ?_
    refine jw_bipush (pc := 66) (v := 28) dX12_least_66 rfl ?_
    refine jw_iload_n (pc := 68) (j := 2) dX12_least_68 rfl rfl ?_
    refine jw_iadd (pc := 69) dX12_least_69 ?_
    obtain ⟨j2, hj2, ej2, h⟩ := h
    refine jw_iald (pc := 70) (j := j2) dX12_least_70 sM_5 hj2 ej2 (by decide) ?_
    refine jw_isub (pc := 71) dX12_least_71 ?_
    refine jw_aload_n (pc := 72) (j := 0) dX12_least_72 rfl rfl ?_
    refine jw_getR (pc := 73) (r := 5) dX12_least_73 sM_0 fl_X12_35 (by decide) rfl rfl ?_
    refine jw_bipush (pc := 76) (v := 53) dX12_least_76 rfl ?_
    refine jw_iload_n (pc := 78) (j := 2) dX12_least_78 rfl rfl ?_
    refine jw_iadd (pc := 79) dX12_least_79 ?_
    obtain ⟨j3, hj3, ej3, h⟩ := h
    refine jw_iald (pc := 80) (j := j3) dX12_least_80 sM_5 hj3 ej3 (by decide) ?_
    refine jw_imul (pc := 81) dX12_least_81 ?_
    refine jw_iadd (pc := 82) dX12_least_82 ?_
    refine jw_istore_n (pc := 83) (ls' := [(2, .int (l2 + (((M1.1 9 j1) - (M1.1 5 j2)) * (M1.1 5 j3)))), (0, .ref (x.2.2.2 0)), (3, .int l3)]) dX12_least_83 rfl (by decide) rfl ?_
    refine jw_iinc (pc := 84) (j := 2) (u := l3 + 1) (ls' := [(3, .int (l3 + 1)), (2, .int (l2 + (((M1.1 9 j1) - (M1.1 5 j2)) * (M1.1 5 j3)))), (0, .ref (x.2.2.2 0))]) dX12_least_84 rfl rfl (by decide) rfl ?_
    refine jw_goto (pc := 87) (tgt := 47) dX12_least_87 (by decide) ?_
    exact jw_sub [2, 1, 0] rfl h
set_option maxRecDepth 20000 in
theorem b_X12_courts {x : jX} {d : Nat} {M : jM} {P : jM → Int32 → Prop} {a1 : Int32} 
    (h : ∀ M1, M1 = jrI M 0 (upd (M.1 0) 1 (0 : Int32)) → ∀ M2, M2 = jrI M1 0 (upd (M1.1 0) 0 (0 : Int32)) → JC x jtbM mX12_isSet d [.ref (x.2.2.2 0), .int a1] M2 (jZ fun M3 b1 => (b1 = true → JC x jtbM mX12_ask d [.ref (x.2.2.2 0), .int a1] M3 (jV fun M4 => JC x jtbM mX12_canKeep d [.ref (x.2.2.2 0)] M4 (jZ fun M5 b2 => (b2 = true → JC x jtbM mX12_findCovers d [.ref (x.2.2.2 0)] M5 (jV fun M6 => JW x jtbM mX12_courts (d + 1) (jI P) 49 [(0, .ref (x.2.2.2 0)), (2, .int (0 : Int32))] [] M6)) ∧ (b2 = false → JC x jtbM mX12_refuse d [.ref (x.2.2.2 0), .int (9 : Int32)] M5 (jI fun M7 r1 => P M7 r1))))) ∧ (b1 = false → JC x jtbM mX12_refuse d [.ref (x.2.2.2 0), .int (2 : Int32)] M3 (jI fun M8 r2 => P M8 r2)))) :
    JC x jtbM mX12_courts (d + 1) [.ref (x.2.2.2 0), .int a1] M (jI P) := by
  refine JC.of rfl (Nat.le_of_ble_eq_true rfl) ?_
  refine jw_ls (ls' := [(0, .ref (x.2.2.2 0)), (1, .int a1)]) rfl ?_
  refine jw_aload_n (pc := 0) (j := 0) dX12_courts_0 rfl rfl ?_
  refine jw_iconst (pc := 1) (v := 0) dX12_courts_1 rfl ?_
  refine jw_putI (pc := 2) dX12_courts_2 sM_0 fl_X12_81 fw_12_1 (by decide) rfl ?_
  replace h := h _ rfl
  generalize jrI M 0 (upd (M.1 0) 1 (0 : Int32)) = M1 at h ⊢
  refine jw_aload_n (pc := 5) (j := 0) dX12_courts_5 rfl rfl ?_
  refine jw_iconst (pc := 6) (v := 0) dX12_courts_6 rfl ?_
  refine jw_putI (pc := 7) dX12_courts_7 sM_0 fl_X12_84 fw_12_0 (by decide) rfl ?_
  replace h := h _ rfl
  generalize jrI M1 0 (upd (M1.1 0) 0 (0 : Int32)) = M2 at h ⊢
  refine jw_aload_n (pc := 10) (j := 0) dX12_courts_10 rfl rfl ?_
  refine jw_iload_n (pc := 11) (j := 1) dX12_courts_11 rfl rfl ?_
  refine jw_callV (pc := 12) (m2 := mX12_isSet) (As := [.int a1]) (st := []) dX12_courts_12 sM_0 (by decide) rfl rfl gm_X12_isSet ml_X12_369 rfl (Nat.le_of_ble_eq_true rfl) (JC.mono h ?_)
  clear h
  rintro M3 _ ⟨b1, rfl, h⟩
  refine jw_st (st' := [.int (jb b1)]) rfl ?_
  refine jw_if_ne (pc := 15) (tgt := 24) dX12_courts_15 (by decide) (fun c => ?_) (fun c => ?_)
  · replace h := h.1 (jb_ne c)
    refine jw_aload_n (pc := 24) (j := 0) dX12_courts_24 rfl rfl ?_
    refine jw_iload_n (pc := 25) (j := 1) dX12_courts_25 rfl rfl ?_
    refine jw_callV (pc := 26) (m2 := mX12_ask) (As := [.int a1]) (st := []) dX12_courts_26 sM_0 (by decide) rfl rfl gm_X12_ask ml_X12_372 rfl (Nat.le_of_ble_eq_true rfl) (JC.mono h ?_)
    clear h
    rintro M4 _ ⟨rfl, h⟩
    refine jw_st (st' := []) rfl ?_
    refine jw_aload_n (pc := 29) (j := 0) dX12_courts_29 rfl rfl ?_
    refine jw_callV (pc := 30) (m2 := mX12_canKeep) (As := []) (st := []) dX12_courts_30 sM_0 (by decide) rfl rfl gm_X12_canKeep ml_X12_375 rfl (Nat.le_of_ble_eq_true rfl) (JC.mono h ?_)
    clear h
    rintro M5 _ ⟨b2, rfl, h⟩
    refine jw_st (st' := [.int (jb b2)]) rfl ?_
    refine jw_if_ne (pc := 33) (tgt := 43) dX12_courts_33 (by decide) (fun c => ?_) (fun c => ?_)
    · replace h := h.1 (jb_ne c)
      refine jw_aload_n (pc := 43) (j := 0) dX12_courts_43 rfl rfl ?_
      refine jw_callV (pc := 44) (m2 := mX12_findCovers) (As := []) (st := []) dX12_courts_44 sM_0 (by decide) rfl rfl gm_X12_findCovers ml_X12_394 rfl (Nat.le_of_ble_eq_true rfl) (JC.mono h ?_)
      clear h
      rintro M6 _ ⟨rfl, h⟩
      refine jw_st (st' := []) rfl ?_
      refine jw_iconst (pc := 47) (v := 0) dX12_courts_47 rfl ?_
      refine jw_istore_n (pc := 48) (ls' := [(2, .int (0 : Int32)), (0, .ref (x.2.2.2 0)), (1, .int a1)]) dX12_courts_48 rfl (by decide) rfl ?_
      exact jw_sub [1, 0] rfl h
    · replace h := h.2 ((jb_0 _).mp c)
      refine jw_aload_n (pc := 36) (j := 0) dX12_courts_36 rfl rfl ?_
      refine jw_bipush (pc := 37) (v := 9) dX12_courts_37 rfl ?_
      refine jw_callV (pc := 39) (m2 := mX12_refuse) (As := [.int (9 : Int32)]) (st := []) dX12_courts_39 sM_0 (by decide) rfl rfl gm_X12_refuse ml_X12_316 rfl (Nat.le_of_ble_eq_true rfl) (JC.mono h ?_)
      clear h
      rintro M7 _ ⟨r1, rfl, h⟩
      refine jw_st (st' := [.int r1]) rfl ?_
      exact jw_iret (pc := 42) dX12_courts_42 rfl ⟨_, rfl, h⟩
  · replace h := h.2 ((jb_0 _).mp c)
    refine jw_aload_n (pc := 18) (j := 0) dX12_courts_18 rfl rfl ?_
    refine jw_iconst (pc := 19) (v := 2) dX12_courts_19 rfl ?_
    refine jw_callV (pc := 20) (m2 := mX12_refuse) (As := [.int (2 : Int32)]) (st := []) dX12_courts_20 sM_0 (by decide) rfl rfl gm_X12_refuse ml_X12_316 rfl (Nat.le_of_ble_eq_true rfl) (JC.mono h ?_)
    clear h
    rintro M8 _ ⟨r2, rfl, h⟩
    refine jw_st (st' := [.int r2]) rfl ?_
    exact jw_iret (pc := 23) dX12_courts_23 rfl ⟨_, rfl, h⟩
set_option maxRecDepth 20000 in
theorem b_X12_courts_49 {x : jX} {d : Nat} {M : jM} {P : jM → Int32 → Prop} {l2 : Int32} 
    (h : JC x jtbM mX12_cells d [.ref (x.2.2.2 0)] M (jI fun M1 r1 => (r1 ≤ l2 → JC x jtbM mX12_cells d [.ref (x.2.2.2 0)] M1 (jI fun M2 r2 => JC x jtbM mX12_allCells d [.ref (x.2.2.2 0)] M2 (jI fun M3 r3 => JC x jtbM mX12_leastCover d [.ref (x.2.2.2 0), .int r3] M3 (jI fun M4 r4 => P M4 (r2 - r4))))) ∧ (¬ r1 ≤ l2 → ∃ j1, j1 < 25 ∧ l2 = nI j1 ∧ (∀ M5, M5 = jrI M1 10 (upd (M1.1 10) j1 (1 : Int32)) → JW x jtbM mX12_courts (d + 1) (jI P) 49 [(0, .ref (x.2.2.2 0)), (2, .int (l2 + 1))] [] M5)))) :
    JW x jtbM mX12_courts (d + 1) (jI P) 49 [(0, .ref (x.2.2.2 0)), (2, .int l2)] [] M := by
  refine jw_iload_n (pc := 49) (j := 1) dX12_courts_49 rfl rfl ?_
  refine jw_aload_n (pc := 50) (j := 0) dX12_courts_50 rfl rfl ?_
  refine jw_callV (pc := 51) (m2 := mX12_cells) (As := []) (st := [.int l2]) dX12_courts_51 sM_0 (by decide) rfl rfl gm_X12_cells ml_X12_305 rfl (Nat.le_of_ble_eq_true rfl) (JC.mono h ?_)
  clear h
  rintro M1 _ ⟨r1, rfl, h⟩
  refine jw_st (st' := [.int r1, .int l2]) rfl ?_
  refine jw_icmp_ge (pc := 54) (tgt := 70) dX12_courts_54 (by decide) (fun c => ?_) (fun c => ?_)
  · replace h := h.1 c
    refine jw_aload_n (pc := 70) (j := 0) dX12_courts_70 rfl rfl ?_
    refine jw_callV (pc := 71) (m2 := mX12_cells) (As := []) (st := []) dX12_courts_71 sM_0 (by decide) rfl rfl gm_X12_cells ml_X12_305 rfl (Nat.le_of_ble_eq_true rfl) (JC.mono h ?_)
    clear h
    rintro M2 _ ⟨r2, rfl, h⟩
    refine jw_st (st' := [.int r2]) rfl ?_
    refine jw_aload_n (pc := 74) (j := 0) dX12_courts_74 rfl rfl ?_
    refine jw_aload_n (pc := 75) (j := 0) dX12_courts_75 rfl rfl ?_
    refine jw_callV (pc := 76) (m2 := mX12_allCells) (As := []) (st := [.ref (x.2.2.2 0), .int r2]) dX12_courts_76 sM_0 (by decide) rfl rfl gm_X12_allCells ml_X12_397 rfl (Nat.le_of_ble_eq_true rfl) (JC.mono h ?_)
    clear h
    rintro M3 _ ⟨r3, rfl, h⟩
    refine jw_st (st' := [.int r3, .ref (x.2.2.2 0), .int r2]) rfl ?_
    refine jw_callV (pc := 79) (m2 := mX12_leastCover) (As := [.int r3]) (st := [.int r2]) dX12_courts_79 sM_0 (by decide) rfl rfl gm_X12_leastCover ml_X12_400 rfl (Nat.le_of_ble_eq_true rfl) (JC.mono h ?_)
    clear h
    rintro M4 _ ⟨r4, rfl, h⟩
    refine jw_st (st' := [.int r4, .int r2]) rfl ?_
    refine jw_isub (pc := 82) dX12_courts_82 ?_
    exact jw_iret (pc := 83) dX12_courts_83 rfl ⟨_, rfl, h⟩
  · replace h := h.2 c
    refine jw_aload_n (pc := 57) (j := 0) dX12_courts_57 rfl rfl ?_
    refine jw_getR (pc := 58) (r := 10) dX12_courts_58 sM_0 fl_X12_51 (by decide) rfl rfl ?_
    refine jw_iload_n (pc := 61) (j := 1) dX12_courts_61 rfl rfl ?_
    refine jw_iconst (pc := 62) (v := 1) dX12_courts_62 rfl ?_
    obtain ⟨j1, hj1, ej1, h⟩ := h
    refine jw_iast (pc := 63) (j := j1) dX12_courts_63 sM_10 hj1 ej1 (by decide) ?_
    replace h := h _ rfl
    generalize jrI M1 10 (upd (M1.1 10) j1 (1 : Int32)) = M5 at h ⊢
    refine jw_iinc (pc := 64) (j := 1) (u := l2 + 1) (ls' := [(2, .int (l2 + 1)), (0, .ref (x.2.2.2 0))]) dX12_courts_64 rfl rfl (by decide) rfl ?_
    refine jw_goto (pc := 67) (tgt := 49) dX12_courts_67 (by decide) ?_
    exact jw_sub [1, 0] rfl h
set_option maxRecDepth 20000 in
theorem b_X12_townsWithout {x : jX} {d : Nat} {M : jM} {P : jM → Int64 → Prop} {a1 : Int32} {a2 : Int32} 
    (h : JW x jtbM mX12_townsWithout (d + 1) (jL P) 5 [(0, .ref (x.2.2.2 0)), (1, .int a1), (2, .int a2), (3, .long (1 : Int64)), (5, .int (0 : Int32))] [] M) :
    JC x jtbM mX12_townsWithout (d + 1) [.ref (x.2.2.2 0), .int a1, .int a2] M (jL P) := by
  refine JC.of rfl (Nat.le_of_ble_eq_true rfl) ?_
  refine jw_ls (ls' := [(0, .ref (x.2.2.2 0)), (1, .int a1), (2, .int a2)]) rfl ?_
  refine jw_lconst (pc := 0) (v := 1) dX12_townsWithout_0 rfl ?_
  refine jw_lstore_n (pc := 1) (ls' := [(3, .long (1 : Int64)), (0, .ref (x.2.2.2 0)), (1, .int a1), (2, .int a2)]) dX12_townsWithout_1 rfl (by decide) rfl ?_
  refine jw_iconst (pc := 2) (v := 0) dX12_townsWithout_2 rfl ?_
  refine jw_istore (pc := 3) (ls' := [(5, .int (0 : Int32)), (3, .long (1 : Int64)), (0, .ref (x.2.2.2 0)), (1, .int a1), (2, .int a2)]) dX12_townsWithout_3 (by decide) rfl ?_
  exact jw_sub [2, 3, 4, 1, 0] rfl h
set_option maxRecDepth 20000 in
theorem b_X12_townsWithout_5 {x : jX} {d : Nat} {M : jM} {P : jM → Int64 → Prop} {l1 : Int32} {l2 : Int32} {l3 : Int64} {l5 : Int32} 
    (h : JC x jtbM mX12_cells d [.ref (x.2.2.2 0)] M (jI fun M1 r1 => (r1 ≤ l5 → P M1 l3) ∧ (¬ r1 ≤ l5 → ∃ j1, j1 < 25 ∧ l5 = nI j1 ∧ (JW x jtbM mX12_townsWithout (d + 1) (jL P) 26 [(0, .ref (x.2.2.2 0)), (1, .int l1), (2, .int l2), (3, .long l3), (5, .int l5), (6, .int (M1.1 9 j1)), (7, .int (0 : Int32))] [] M1)))) :
    JW x jtbM mX12_townsWithout (d + 1) (jL P) 5 [(0, .ref (x.2.2.2 0)), (1, .int l1), (2, .int l2), (3, .long l3), (5, .int l5)] [] M := by
  refine jw_iload (pc := 5) (j := 4) dX12_townsWithout_5 rfl ?_
  refine jw_aload_n (pc := 7) (j := 0) dX12_townsWithout_7 rfl rfl ?_
  refine jw_callV (pc := 8) (m2 := mX12_cells) (As := []) (st := [.int l5]) dX12_townsWithout_8 sM_0 (by decide) rfl rfl gm_X12_cells ml_X12_305 rfl (Nat.le_of_ble_eq_true rfl) (JC.mono h ?_)
  clear h
  rintro M1 _ ⟨r1, rfl, h⟩
  refine jw_st (st' := [.int r1, .int l5]) rfl ?_
  refine jw_icmp_ge (pc := 11) (tgt := 144) dX12_townsWithout_11 (by decide) (fun c => ?_) (fun c => ?_)
  · replace h := h.1 c
    refine jw_lload_n (pc := 144) (j := 3) dX12_townsWithout_144 rfl rfl ?_
    exact jw_lret (pc := 145) dX12_townsWithout_145 rfl ⟨_, rfl, h⟩
  · replace h := h.2 c
    refine jw_aload_n (pc := 14) (j := 0) dX12_townsWithout_14 rfl rfl ?_
    refine jw_getR (pc := 15) (r := 9) dX12_townsWithout_15 sM_0 fl_X12_48 (by decide) rfl rfl ?_
    refine jw_iload (pc := 18) (j := 4) dX12_townsWithout_18 rfl ?_
    obtain ⟨j1, hj1, ej1, h⟩ := h
    refine jw_iald (pc := 20) (j := j1) dX12_townsWithout_20 sM_9 hj1 ej1 (by decide) ?_
    refine jw_istore (pc := 21) (ls' := [(6, .int (M1.1 9 j1)), (0, .ref (x.2.2.2 0)), (1, .int l1), (2, .int l2), (3, .long l3), (5, .int l5)]) dX12_townsWithout_21 (by decide) rfl ?_
    refine jw_iconst (pc := 23) (v := 0) dX12_townsWithout_23 rfl ?_
    refine jw_istore (pc := 24) (ls' := [(7, .int (0 : Int32)), (6, .int (M1.1 9 j1)), (0, .ref (x.2.2.2 0)), (1, .int l1), (2, .int l2), (3, .long l3), (5, .int l5)]) dX12_townsWithout_24 (by decide) rfl ?_
    exact jw_sub [2, 3, 4, 5, 6, 1, 0] rfl h
set_option maxRecDepth 20000 in
theorem b_X12_townsWithout_26 {x : jX} {d : Nat} {M : jM} {P : jM → Int64 → Prop} {l1 : Int32} {l2 : Int32} {l3 : Int64} {l5 : Int32} {l6 : Int32} {l7 : Int32} 
    (h : (l2 ≤ l7 → ∃ j1, j1 < 2060 ∧ (28 : Int32) + l5 = nI j1 ∧ (JC x jtbM mJ9_max_7cf53 d [.int (0 : Int32), .int ((l6 - (M.1 5 j1)) + (1 : Int32))] M (jI fun M1 r1 => JW x jtbM mX12_townsWithout (d + 1) (jL P) 5 [(0, .ref (x.2.2.2 0)), (1, .int l1), (2, .int l2), (3, .long ((l3 * r1.toInt64) - (l3 * r1.toInt64) / (1000007 : Int64) * (1000007 : Int64))), (5, .int (l5 + 1))] [] M1))) ∧ (¬ l2 ≤ l7 → JC x jtbM mX12_has d [.ref (x.2.2.2 0), .int l1, .int l7] M (jZ fun M2 b1 => (b1 = false → JW x jtbM mX12_townsWithout (d + 1) (jL P) 26 [(0, .ref (x.2.2.2 0)), (1, .int l1), (2, .int l2), (3, .long l3), (5, .int l5), (6, .int l6), (7, .int (l7 + 1))] [] M2) ∧ (b1 = true → ∃ j2, j2 < 16 ∧ l7 = nI j2 ∧ (∃ j3, j3 < 2060 ∧ (78 : Int32) + (M2.1 18 j2) = nI j3 ∧ (JC x jtbM mX12_stripOf d [.ref (x.2.2.2 0), .int (M2.1 5 j3), .int l5] M2 (jI fun M3 r2 => (¬ r2 = (M3.1 19 j2) → JW x jtbM mX12_townsWithout (d + 1) (jL P) 26 [(0, .ref (x.2.2.2 0)), (1, .int l1), (2, .int l2), (3, .long l3), (5, .int l5), (6, .int l6), (7, .int (l7 + 1))] [] M3) ∧ (r2 = (M3.1 19 j2) → ∃ j4, j4 < 54 ∧ ((9 : Int32) * (M3.1 18 j2)) + (M3.1 19 j2) = nI j4 ∧ (JC x jtbM mJ9_min_7cf53 d [.int l6, .int ((M3.1 8 j4) - (1 : Int32))] M3 (jI fun M4 r3 => JW x jtbM mX12_townsWithout (d + 1) (jL P) 26 [(0, .ref (x.2.2.2 0)), (1, .int l1), (2, .int l2), (3, .long l3), (5, .int l5), (6, .int r3), (7, .int (l7 + 1))] [] M4)))))))))) :
    JW x jtbM mX12_townsWithout (d + 1) (jL P) 26 [(0, .ref (x.2.2.2 0)), (1, .int l1), (2, .int l2), (3, .long l3), (5, .int l5), (6, .int l6), (7, .int l7)] [] M := by
  refine jw_iload (pc := 26) (j := 6) dX12_townsWithout_26 rfl ?_
  refine jw_iload_n (pc := 28) (j := 2) dX12_townsWithout_28 rfl rfl ?_
  refine jw_icmp_ge (pc := 29) (tgt := 111) dX12_townsWithout_29 (by decide) (fun c => ?_) (fun c => ?_)
  · replace h := h.1 c
    refine jw_lload_n (pc := 111) (j := 3) dX12_townsWithout_111 rfl rfl ?_
    refine jw_iconst (pc := 112) (v := 0) dX12_townsWithout_112 rfl ?_
    refine jw_iload (pc := 113) (j := 5) dX12_townsWithout_113 rfl ?_
    refine jw_aload_n (pc := 115) (j := 0) dX12_townsWithout_115 rfl rfl ?_
    refine jw_getR (pc := 116) (r := 5) dX12_townsWithout_116 sM_0 fl_X12_35 (by decide) rfl rfl ?_
    refine jw_bipush (pc := 119) (v := 28) dX12_townsWithout_119 rfl ?_
    refine jw_iload (pc := 121) (j := 4) dX12_townsWithout_121 rfl ?_
    refine jw_iadd (pc := 123) dX12_townsWithout_123 ?_
    obtain ⟨j1, hj1, ej1, h⟩ := h
    refine jw_iald (pc := 124) (j := j1) dX12_townsWithout_124 sM_5 hj1 ej1 (by decide) ?_
    refine jw_isub (pc := 125) dX12_townsWithout_125 ?_
    refine jw_iconst (pc := 126) (v := 1) dX12_townsWithout_126 rfl ?_
    refine jw_iadd (pc := 127) dX12_townsWithout_127 ?_
    refine jw_callS (pc := 128) (m2 := mJ9_max_7cf53) (As := [.int (0 : Int32), .int ((l6 - (M.1 5 j1)) + (1 : Int32))]) (st := [.long l3]) dX12_townsWithout_128 gm_J9_max_7cf53 ml_X12_342 rfl (Nat.le_of_ble_eq_true rfl) (JC.mono h ?_)
    clear h
    rintro M1 _ ⟨r1, rfl, h⟩
    refine jw_st (st' := [.int r1, .long l3]) rfl ?_
    refine jw_i2l (pc := 131) dX12_townsWithout_131 ?_
    refine jw_lmul (pc := 132) dX12_townsWithout_132 ?_
    refine jw_ldc2 (pc := 133) (v := 1000007) dX12_townsWithout_133 kl_X12_410 ?_
    refine jw_lrem (pc := 136) dX12_townsWithout_136 (by decide) ?_
    refine jw_lstore_n (pc := 137) (ls' := [(3, .long ((l3 * r1.toInt64) - (l3 * r1.toInt64) / (1000007 : Int64) * (1000007 : Int64))), (0, .ref (x.2.2.2 0)), (1, .int l1), (2, .int l2), (5, .int l5), (6, .int l6), (7, .int l7)]) dX12_townsWithout_137 rfl (by decide) rfl ?_
    refine jw_iinc (pc := 138) (j := 4) (u := l5 + 1) (ls' := [(5, .int (l5 + 1)), (3, .long ((l3 * r1.toInt64) - (l3 * r1.toInt64) / (1000007 : Int64) * (1000007 : Int64))), (0, .ref (x.2.2.2 0)), (1, .int l1), (2, .int l2), (6, .int l6), (7, .int l7)]) dX12_townsWithout_138 rfl rfl (by decide) rfl ?_
    refine jw_goto (pc := 141) (tgt := 5) dX12_townsWithout_141 (by decide) ?_
    exact jw_sub [2, 3, 4, 1, 0] rfl h
  · replace h := h.2 c
    refine jw_aload_n (pc := 32) (j := 0) dX12_townsWithout_32 rfl rfl ?_
    refine jw_iload_n (pc := 33) (j := 1) dX12_townsWithout_33 rfl rfl ?_
    refine jw_iload (pc := 34) (j := 6) dX12_townsWithout_34 rfl ?_
    refine jw_callV (pc := 36) (m2 := mX12_has) (As := [.int l1, .int l7]) (st := []) dX12_townsWithout_36 sM_0 (by decide) rfl rfl gm_X12_has ml_X12_381 rfl (Nat.le_of_ble_eq_true rfl) (JC.mono h ?_)
    clear h
    rintro M2 _ ⟨b1, rfl, h⟩
    refine jw_st (st' := [.int (jb b1)]) rfl ?_
    refine jw_if_eq (pc := 39) (tgt := 105) dX12_townsWithout_39 (by decide) (fun c => ?_) (fun c => ?_)
    · replace h := h.1 ((jb_0 _).mp c)
      refine jw_iinc (pc := 105) (j := 6) (u := l7 + 1) (ls' := [(7, .int (l7 + 1)), (0, .ref (x.2.2.2 0)), (1, .int l1), (2, .int l2), (3, .long l3), (5, .int l5), (6, .int l6)]) dX12_townsWithout_105 rfl rfl (by decide) rfl ?_
      refine jw_goto (pc := 108) (tgt := 26) dX12_townsWithout_108 (by decide) ?_
      exact jw_sub [1, 2, 3, 4, 5, 6, 0] rfl h
    · replace h := h.2 (jb_ne c)
      refine jw_aload_n (pc := 42) (j := 0) dX12_townsWithout_42 rfl rfl ?_
      refine jw_aload_n (pc := 43) (j := 0) dX12_townsWithout_43 rfl rfl ?_
      refine jw_getR (pc := 44) (r := 5) dX12_townsWithout_44 sM_0 fl_X12_35 (by decide) rfl rfl ?_
      refine jw_bipush (pc := 47) (v := 78) dX12_townsWithout_47 rfl ?_
      refine jw_aload_n (pc := 49) (j := 0) dX12_townsWithout_49 rfl rfl ?_
      refine jw_getR (pc := 50) (r := 18) dX12_townsWithout_50 sM_0 fl_X12_75 (by decide) rfl rfl ?_
      refine jw_iload (pc := 53) (j := 6) dX12_townsWithout_53 rfl ?_
      obtain ⟨j2, hj2, ej2, h⟩ := h
      refine jw_iald (pc := 55) (j := j2) dX12_townsWithout_55 sM_18 hj2 ej2 (by decide) ?_
      refine jw_iadd (pc := 56) dX12_townsWithout_56 ?_
      obtain ⟨j3, hj3, ej3, h⟩ := h
      refine jw_iald (pc := 57) (j := j3) dX12_townsWithout_57 sM_5 hj3 ej3 (by decide) ?_
      refine jw_iload (pc := 58) (j := 4) dX12_townsWithout_58 rfl ?_
      refine jw_callV (pc := 60) (m2 := mX12_stripOf) (As := [.int (M2.1 5 j3), .int l5]) (st := []) dX12_townsWithout_60 sM_0 (by decide) rfl rfl gm_X12_stripOf ml_X12_327 rfl (Nat.le_of_ble_eq_true rfl) (JC.mono h ?_)
      clear h
      rintro M3 _ ⟨r2, rfl, h⟩
      refine jw_st (st' := [.int r2]) rfl ?_
      refine jw_aload_n (pc := 63) (j := 0) dX12_townsWithout_63 rfl rfl ?_
      refine jw_getR (pc := 64) (r := 19) dX12_townsWithout_64 sM_0 fl_X12_78 (by decide) rfl rfl ?_
      refine jw_iload (pc := 67) (j := 6) dX12_townsWithout_67 rfl ?_
      refine jw_iald (pc := 69) (j := j2) dX12_townsWithout_69 sM_19 hj2 ej2 (by decide) ?_
      refine jw_icmp_ne (pc := 70) (tgt := 105) dX12_townsWithout_70 (by decide) (fun c => ?_) (fun c => ?_)
      · replace h := h.1 c
        refine jw_iinc (pc := 105) (j := 6) (u := l7 + 1) (ls' := [(7, .int (l7 + 1)), (0, .ref (x.2.2.2 0)), (1, .int l1), (2, .int l2), (3, .long l3), (5, .int l5), (6, .int l6)]) dX12_townsWithout_105 rfl rfl (by decide) rfl ?_
        refine jw_goto (pc := 108) (tgt := 26) dX12_townsWithout_108 (by decide) ?_
        exact jw_sub [1, 2, 3, 4, 5, 6, 0] rfl h
      · replace h := h.2 c
        refine jw_iload (pc := 73) (j := 5) dX12_townsWithout_73 rfl ?_
        refine jw_aload_n (pc := 75) (j := 0) dX12_townsWithout_75 rfl rfl ?_
        refine jw_getR (pc := 76) (r := 8) dX12_townsWithout_76 sM_0 fl_X12_45 (by decide) rfl rfl ?_
        refine jw_bipush (pc := 79) (v := 9) dX12_townsWithout_79 rfl ?_
        refine jw_aload_n (pc := 81) (j := 0) dX12_townsWithout_81 rfl rfl ?_
        refine jw_getR (pc := 82) (r := 18) dX12_townsWithout_82 sM_0 fl_X12_75 (by decide) rfl rfl ?_
        refine jw_iload (pc := 85) (j := 6) dX12_townsWithout_85 rfl ?_
        refine jw_iald (pc := 87) (j := j2) dX12_townsWithout_87 sM_18 hj2 ej2 (by decide) ?_
        refine jw_imul (pc := 88) dX12_townsWithout_88 ?_
        refine jw_aload_n (pc := 89) (j := 0) dX12_townsWithout_89 rfl rfl ?_
        refine jw_getR (pc := 90) (r := 19) dX12_townsWithout_90 sM_0 fl_X12_78 (by decide) rfl rfl ?_
        refine jw_iload (pc := 93) (j := 6) dX12_townsWithout_93 rfl ?_
        refine jw_iald (pc := 95) (j := j2) dX12_townsWithout_95 sM_19 hj2 ej2 (by decide) ?_
        refine jw_iadd (pc := 96) dX12_townsWithout_96 ?_
        obtain ⟨j4, hj4, ej4, h⟩ := h
        refine jw_iald (pc := 97) (j := j4) dX12_townsWithout_97 sM_8 hj4 ej4 (by decide) ?_
        refine jw_iconst (pc := 98) (v := 1) dX12_townsWithout_98 rfl ?_
        refine jw_isub (pc := 99) dX12_townsWithout_99 ?_
        refine jw_callS (pc := 100) (m2 := mJ9_min_7cf53) (As := [.int l6, .int ((M3.1 8 j4) - (1 : Int32))]) (st := []) dX12_townsWithout_100 gm_J9_min_7cf53 ml_X12_354 rfl (Nat.le_of_ble_eq_true rfl) (JC.mono h ?_)
        clear h
        rintro M4 _ ⟨r3, rfl, h⟩
        refine jw_st (st' := [.int r3]) rfl ?_
        refine jw_istore (pc := 103) (ls' := [(6, .int r3), (0, .ref (x.2.2.2 0)), (1, .int l1), (2, .int l2), (3, .long l3), (5, .int l5), (7, .int l7)]) dX12_townsWithout_103 (by decide) rfl ?_
        refine jw_iinc (pc := 105) (j := 6) (u := l7 + 1) (ls' := [(7, .int (l7 + 1)), (6, .int r3), (0, .ref (x.2.2.2 0)), (1, .int l1), (2, .int l2), (3, .long l3), (5, .int l5)]) dX12_townsWithout_105 rfl rfl (by decide) rfl ?_
        refine jw_goto (pc := 108) (tgt := 26) dX12_townsWithout_108 (by decide) ?_
        exact jw_sub [2, 3, 4, 5, 6, 1, 0] rfl h
set_option maxRecDepth 20000 in
theorem b_X12_towns {x : jX} {d : Nat} {M : jM} {P : jM → Int32 → Prop} {a1 : Int32} 
    (h : ∀ M1, M1 = jrI M 0 (upd (M.1 0) 1 (0 : Int32)) → ∀ M2, M2 = jrI M1 0 (upd (M1.1 0) 0 (0 : Int32)) → JC x jtbM mX12_isSet d [.ref (x.2.2.2 0), .int a1] M2 (jZ fun M3 b1 => (b1 = true → JC x jtbM mX12_ask d [.ref (x.2.2.2 0), .int a1] M3 (jV fun M4 => JW x jtbM mX12_towns (d + 1) (jI P) 33 [(0, .ref (x.2.2.2 0)), (2, .int (0 : Int32)), (3, .int (0 : Int32))] [] M4)) ∧ (b1 = false → JC x jtbM mX12_refuse d [.ref (x.2.2.2 0), .int (2 : Int32)] M3 (jI fun M5 r1 => P M5 r1)))) :
    JC x jtbM mX12_towns (d + 1) [.ref (x.2.2.2 0), .int a1] M (jI P) := by
  refine JC.of rfl (Nat.le_of_ble_eq_true rfl) ?_
  refine jw_ls (ls' := [(0, .ref (x.2.2.2 0)), (1, .int a1)]) rfl ?_
  refine jw_aload_n (pc := 0) (j := 0) dX12_towns_0 rfl rfl ?_
  refine jw_iconst (pc := 1) (v := 0) dX12_towns_1 rfl ?_
  refine jw_putI (pc := 2) dX12_towns_2 sM_0 fl_X12_81 fw_12_1 (by decide) rfl ?_
  replace h := h _ rfl
  generalize jrI M 0 (upd (M.1 0) 1 (0 : Int32)) = M1 at h ⊢
  refine jw_aload_n (pc := 5) (j := 0) dX12_towns_5 rfl rfl ?_
  refine jw_iconst (pc := 6) (v := 0) dX12_towns_6 rfl ?_
  refine jw_putI (pc := 7) dX12_towns_7 sM_0 fl_X12_84 fw_12_0 (by decide) rfl ?_
  replace h := h _ rfl
  generalize jrI M1 0 (upd (M1.1 0) 0 (0 : Int32)) = M2 at h ⊢
  refine jw_aload_n (pc := 10) (j := 0) dX12_towns_10 rfl rfl ?_
  refine jw_iload_n (pc := 11) (j := 1) dX12_towns_11 rfl rfl ?_
  refine jw_callV (pc := 12) (m2 := mX12_isSet) (As := [.int a1]) (st := []) dX12_towns_12 sM_0 (by decide) rfl rfl gm_X12_isSet ml_X12_369 rfl (Nat.le_of_ble_eq_true rfl) (JC.mono h ?_)
  clear h
  rintro M3 _ ⟨b1, rfl, h⟩
  refine jw_st (st' := [.int (jb b1)]) rfl ?_
  refine jw_if_ne (pc := 15) (tgt := 24) dX12_towns_15 (by decide) (fun c => ?_) (fun c => ?_)
  · replace h := h.1 (jb_ne c)
    refine jw_aload_n (pc := 24) (j := 0) dX12_towns_24 rfl rfl ?_
    refine jw_iload_n (pc := 25) (j := 1) dX12_towns_25 rfl rfl ?_
    refine jw_callV (pc := 26) (m2 := mX12_ask) (As := [.int a1]) (st := []) dX12_towns_26 sM_0 (by decide) rfl rfl gm_X12_ask ml_X12_372 rfl (Nat.le_of_ble_eq_true rfl) (JC.mono h ?_)
    clear h
    rintro M4 _ ⟨rfl, h⟩
    refine jw_st (st' := []) rfl ?_
    refine jw_iconst (pc := 29) (v := 0) dX12_towns_29 rfl ?_
    refine jw_istore_n (pc := 30) (ls' := [(2, .int (0 : Int32)), (0, .ref (x.2.2.2 0)), (1, .int a1)]) dX12_towns_30 rfl (by decide) rfl ?_
    refine jw_iconst (pc := 31) (v := 0) dX12_towns_31 rfl ?_
    refine jw_istore_n (pc := 32) (ls' := [(3, .int (0 : Int32)), (2, .int (0 : Int32)), (0, .ref (x.2.2.2 0)), (1, .int a1)]) dX12_towns_32 rfl (by decide) rfl ?_
    exact jw_sub [2, 1, 0] rfl h
  · replace h := h.2 ((jb_0 _).mp c)
    refine jw_aload_n (pc := 18) (j := 0) dX12_towns_18 rfl rfl ?_
    refine jw_iconst (pc := 19) (v := 2) dX12_towns_19 rfl ?_
    refine jw_callV (pc := 20) (m2 := mX12_refuse) (As := [.int (2 : Int32)]) (st := []) dX12_towns_20 sM_0 (by decide) rfl rfl gm_X12_refuse ml_X12_316 rfl (Nat.le_of_ble_eq_true rfl) (JC.mono h ?_)
    clear h
    rintro M5 _ ⟨r1, rfl, h⟩
    refine jw_st (st' := [.int r1]) rfl ?_
    exact jw_iret (pc := 23) dX12_towns_23 rfl ⟨_, rfl, h⟩
set_option maxRecDepth 20000 in
theorem b_X12_towns_33 {x : jX} {d : Nat} {M : jM} {P : jM → Int32 → Prop} {l2 : Int32} {l3 : Int32} 
    (h : ((M.1 5 2) ≤ l3 → JW x jtbM mX12_towns (d + 1) (jI P) 113 [(0, .ref (x.2.2.2 0)), (2, .int l2), (3, .long (0 : Int64)), (5, .int (0 : Int32))] [] M) ∧ (¬ (M.1 5 2) ≤ l3 → JW x jtbM mX12_towns (d + 1) (jI P) 46 [(0, .ref (x.2.2.2 0)), (2, .int l2), (3, .int l3), (4, .int (0 : Int32))] [] M)) :
    JW x jtbM mX12_towns (d + 1) (jI P) 33 [(0, .ref (x.2.2.2 0)), (2, .int l2), (3, .int l3)] [] M := by
  refine jw_iload_n (pc := 33) (j := 2) dX12_towns_33 rfl rfl ?_
  refine jw_aload_n (pc := 34) (j := 0) dX12_towns_34 rfl rfl ?_
  refine jw_getR (pc := 35) (r := 5) dX12_towns_35 sM_0 fl_X12_35 (by decide) rfl rfl ?_
  refine jw_iconst (pc := 38) (v := 2) dX12_towns_38 rfl ?_
  refine jw_iald (pc := 39) (j := 2) dX12_towns_39 sM_5 (by decide) rfl (by decide) ?_
  refine jw_icmp_ge (pc := 40) (tgt := 108) dX12_towns_40 (by decide) (fun c => ?_) (fun c => ?_)
  · replace h := h.1 c
    refine jw_lconst (pc := 108) (v := 0) dX12_towns_108 rfl ?_
    refine jw_lstore_n (pc := 109) (ls' := [(3, .long (0 : Int64)), (0, .ref (x.2.2.2 0)), (2, .int l2)]) dX12_towns_109 rfl (by decide) rfl ?_
    refine jw_iconst (pc := 110) (v := 0) dX12_towns_110 rfl ?_
    refine jw_istore (pc := 111) (ls' := [(5, .int (0 : Int32)), (3, .long (0 : Int64)), (0, .ref (x.2.2.2 0)), (2, .int l2)]) dX12_towns_111 (by decide) rfl ?_
    exact jw_sub [2, 3, 1, 0] rfl h
  · replace h := h.2 c
    refine jw_iconst (pc := 43) (v := 0) dX12_towns_43 rfl ?_
    refine jw_istore (pc := 44) (ls' := [(4, .int (0 : Int32)), (0, .ref (x.2.2.2 0)), (2, .int l2), (3, .int l3)]) dX12_towns_44 (by decide) rfl ?_
    exact jw_sub [1, 2, 3, 0] rfl h
set_option maxRecDepth 20000 in
theorem b_X12_towns_46 {x : jX} {d : Nat} {M : jM} {P : jM → Int32 → Prop} {l2 : Int32} {l3 : Int32} {l4 : Int32} 
    (h : JC x jtbM mX12_strips d [.ref (x.2.2.2 0), .int l3] M (jI fun M1 r1 => (r1 ≤ l4 → JW x jtbM mX12_towns (d + 1) (jI P) 33 [(0, .ref (x.2.2.2 0)), (2, .int l2), (3, .int (l3 + 1))] [] M1) ∧ (¬ r1 ≤ l4 → ∃ j1, j1 < 6 ∧ l3 = nI j1 ∧ (((M1.1 7 j1) = 0 → JW x jtbM mX12_towns (d + 1) (jI P) 33 [(0, .ref (x.2.2.2 0)), (2, .int l2), (3, .int (l3 + 1))] [] M1) ∧ (¬ (M1.1 7 j1) = 0 → (¬ l2 = (16 : Int32) → ∃ j2, j2 < 16 ∧ l2 = nI j2 ∧ (∀ M2, M2 = jrI M1 18 (upd (M1.1 18) j2 l3) → ∀ M3, M3 = jrI M2 19 (upd (M2.1 19) j2 l4) → JW x jtbM mX12_towns (d + 1) (jI P) 46 [(0, .ref (x.2.2.2 0)), (2, .int (l2 + 1)), (3, .int l3), (4, .int (l4 + 1))] [] M3)) ∧ (l2 = (16 : Int32) → JC x jtbM mX12_refuse d [.ref (x.2.2.2 0), .int (7 : Int32)] M1 (jI fun M4 r2 => P M4 r2))))))) :
    JW x jtbM mX12_towns (d + 1) (jI P) 46 [(0, .ref (x.2.2.2 0)), (2, .int l2), (3, .int l3), (4, .int l4)] [] M := by
  refine jw_iload (pc := 46) (j := 3) dX12_towns_46 rfl ?_
  refine jw_aload_n (pc := 48) (j := 0) dX12_towns_48 rfl rfl ?_
  refine jw_iload_n (pc := 49) (j := 2) dX12_towns_49 rfl rfl ?_
  refine jw_callV (pc := 50) (m2 := mX12_strips) (As := [.int l3]) (st := [.int l4]) dX12_towns_50 sM_0 (by decide) rfl rfl gm_X12_strips ml_X12_311 rfl (Nat.le_of_ble_eq_true rfl) (JC.mono h ?_)
  clear h
  rintro M1 _ ⟨r1, rfl, h⟩
  refine jw_st (st' := [.int r1, .int l4]) rfl ?_
  refine jw_icmp_ge (pc := 53) (tgt := 102) dX12_towns_53 (by decide) (fun c => ?_) (fun c => ?_)
  · replace h := h.1 c
    refine jw_iinc (pc := 102) (j := 2) (u := l3 + 1) (ls' := [(3, .int (l3 + 1)), (0, .ref (x.2.2.2 0)), (2, .int l2), (4, .int l4)]) dX12_towns_102 rfl rfl (by decide) rfl ?_
    refine jw_goto (pc := 105) (tgt := 33) dX12_towns_105 (by decide) ?_
    exact jw_sub [1, 2, 0] rfl h
  · replace h := h.2 c
    refine jw_aload_n (pc := 56) (j := 0) dX12_towns_56 rfl rfl ?_
    refine jw_getR (pc := 57) (r := 7) dX12_towns_57 sM_0 fl_X12_41 (by decide) rfl rfl ?_
    refine jw_iload_n (pc := 60) (j := 2) dX12_towns_60 rfl rfl ?_
    obtain ⟨j1, hj1, ej1, h⟩ := h
    refine jw_zald (pc := 61) (j := j1) dX12_towns_61 sM_7 hj1 ej1 (by decide) ?_
    refine jw_if_eq (pc := 62) (tgt := 102) dX12_towns_62 (by decide) (fun c => ?_) (fun c => ?_)
    · replace h := h.1 c
      refine jw_iinc (pc := 102) (j := 2) (u := l3 + 1) (ls' := [(3, .int (l3 + 1)), (0, .ref (x.2.2.2 0)), (2, .int l2), (4, .int l4)]) dX12_towns_102 rfl rfl (by decide) rfl ?_
      refine jw_goto (pc := 105) (tgt := 33) dX12_towns_105 (by decide) ?_
      exact jw_sub [1, 2, 0] rfl h
    · replace h := h.2 c
      refine jw_iload_n (pc := 65) (j := 1) dX12_towns_65 rfl rfl ?_
      refine jw_bipush (pc := 66) (v := 16) dX12_towns_66 rfl ?_
      refine jw_icmp_ne (pc := 68) (tgt := 78) dX12_towns_68 (by decide) (fun c => ?_) (fun c => ?_)
      · replace h := h.1 c
        refine jw_aload_n (pc := 78) (j := 0) dX12_towns_78 rfl rfl ?_
        refine jw_getR (pc := 79) (r := 18) dX12_towns_79 sM_0 fl_X12_75 (by decide) rfl rfl ?_
        refine jw_iload_n (pc := 82) (j := 1) dX12_towns_82 rfl rfl ?_
        refine jw_iload_n (pc := 83) (j := 2) dX12_towns_83 rfl rfl ?_
        obtain ⟨j2, hj2, ej2, h⟩ := h
        refine jw_iast (pc := 84) (j := j2) dX12_towns_84 sM_18 hj2 ej2 (by decide) ?_
        replace h := h _ rfl
        generalize jrI M1 18 (upd (M1.1 18) j2 l3) = M2 at h ⊢
        refine jw_aload_n (pc := 85) (j := 0) dX12_towns_85 rfl rfl ?_
        refine jw_getR (pc := 86) (r := 19) dX12_towns_86 sM_0 fl_X12_78 (by decide) rfl rfl ?_
        refine jw_iload_n (pc := 89) (j := 1) dX12_towns_89 rfl rfl ?_
        refine jw_iload (pc := 90) (j := 3) dX12_towns_90 rfl ?_
        refine jw_iast (pc := 92) (j := j2) dX12_towns_92 sM_19 hj2 ej2 (by decide) ?_
        replace h := h _ rfl
        generalize jrI M2 19 (upd (M2.1 19) j2 l4) = M3 at h ⊢
        refine jw_iinc (pc := 93) (j := 1) (u := l2 + 1) (ls' := [(2, .int (l2 + 1)), (0, .ref (x.2.2.2 0)), (3, .int l3), (4, .int l4)]) dX12_towns_93 rfl rfl (by decide) rfl ?_
        refine jw_iinc (pc := 96) (j := 3) (u := l4 + 1) (ls' := [(4, .int (l4 + 1)), (2, .int (l2 + 1)), (0, .ref (x.2.2.2 0)), (3, .int l3)]) dX12_towns_96 rfl rfl (by decide) rfl ?_
        refine jw_goto (pc := 99) (tgt := 46) dX12_towns_99 (by decide) ?_
        exact jw_sub [2, 1, 3, 0] rfl h
      · replace h := h.2 c
        refine jw_aload_n (pc := 71) (j := 0) dX12_towns_71 rfl rfl ?_
        refine jw_bipush (pc := 72) (v := 7) dX12_towns_72 rfl ?_
        refine jw_callV (pc := 74) (m2 := mX12_refuse) (As := [.int (7 : Int32)]) (st := []) dX12_towns_74 sM_0 (by decide) rfl rfl gm_X12_refuse ml_X12_316 rfl (Nat.le_of_ble_eq_true rfl) (JC.mono h ?_)
        clear h
        rintro M4 _ ⟨r2, rfl, h⟩
        refine jw_st (st' := [.int r2]) rfl ?_
        exact jw_iret (pc := 77) dX12_towns_77 rfl ⟨_, rfl, h⟩
set_option maxRecDepth 20000 in
theorem b_X12_towns_113 {x : jX} {d : Nat} {M : jM} {P : jM → Int32 → Prop} {l2 : Int32} {l3 : Int64} {l5 : Int32} 
    (h : (((1 : Int32) <<< (l2 &&& 31)) ≤ l5 → P M ((l3 - l3 / (1000007 : Int64) * (1000007 : Int64)).toInt32)) ∧ (¬ ((1 : Int32) <<< (l2 &&& 31)) ≤ l5 → JC x jtbM mX12_bits d [.int l5] M (jI fun M1 r1 => (¬ (r1 - r1 / (2 : Int32) * (2 : Int32)) = 0 → JC x jtbM mX12_townsWithout d [.ref (x.2.2.2 0), .int l5, .int l2] M1 (jL fun M2 r2 => JW x jtbM mX12_towns (d + 1) (jI P) 113 [(0, .ref (x.2.2.2 0)), (2, .int l2), (3, .long (l3 + ((1000007 : Int64) - r2))), (5, .int (l5 + 1))] [] M2)) ∧ ((r1 - r1 / (2 : Int32) * (2 : Int32)) = 0 → JC x jtbM mX12_townsWithout d [.ref (x.2.2.2 0), .int l5, .int l2] M1 (jL fun M3 r3 => JW x jtbM mX12_towns (d + 1) (jI P) 113 [(0, .ref (x.2.2.2 0)), (2, .int l2), (3, .long (l3 + r3)), (5, .int (l5 + 1))] [] M3))))) :
    JW x jtbM mX12_towns (d + 1) (jI P) 113 [(0, .ref (x.2.2.2 0)), (2, .int l2), (3, .long l3), (5, .int l5)] [] M := by
  refine jw_iload (pc := 113) (j := 3) dX12_towns_113 rfl ?_
  refine jw_iconst (pc := 115) (v := 1) dX12_towns_115 rfl ?_
  refine jw_iload_n (pc := 116) (j := 1) dX12_towns_116 rfl rfl ?_
  refine jw_ishl (pc := 117) dX12_towns_117 ?_
  refine jw_icmp_ge (pc := 118) (tgt := 161) dX12_towns_118 (by decide) (fun c => ?_) (fun c => ?_)
  · replace h := h.1 c
    refine jw_lload_n (pc := 161) (j := 2) dX12_towns_161 rfl rfl ?_
    refine jw_ldc2 (pc := 162) (v := 1000007) dX12_towns_162 kl_X12_410 ?_
    refine jw_lrem (pc := 165) dX12_towns_165 (by decide) ?_
    refine jw_l2i (pc := 166) dX12_towns_166 ?_
    exact jw_iret (pc := 167) dX12_towns_167 rfl ⟨_, rfl, h⟩
  · replace h := h.2 c
    refine jw_lload_n (pc := 121) (j := 2) dX12_towns_121 rfl rfl ?_
    refine jw_iload (pc := 122) (j := 3) dX12_towns_122 rfl ?_
    refine jw_callS (pc := 124) (m2 := mX12_bits) (As := [.int l5]) (st := [.long l3]) dX12_towns_124 gm_X12_bits ml_X12_387 rfl (Nat.le_of_ble_eq_true rfl) (JC.mono h ?_)
    clear h
    rintro M1 _ ⟨r1, rfl, h⟩
    refine jw_st (st' := [.int r1, .long l3]) rfl ?_
    refine jw_iconst (pc := 127) (v := 2) dX12_towns_127 rfl ?_
    refine jw_irem (pc := 128) dX12_towns_128 (by decide) ?_
    refine jw_if_ne (pc := 129) (tgt := 142) dX12_towns_129 (by decide) (fun c => ?_) (fun c => ?_)
    · replace h := h.1 c
      refine jw_ldc2 (pc := 142) (v := 1000007) dX12_towns_142 kl_X12_410 ?_
      refine jw_aload_n (pc := 145) (j := 0) dX12_towns_145 rfl rfl ?_
      refine jw_iload (pc := 146) (j := 3) dX12_towns_146 rfl ?_
      refine jw_iload_n (pc := 148) (j := 1) dX12_towns_148 rfl rfl ?_
      refine jw_callV (pc := 149) (m2 := mX12_townsWithout) (As := [.int l5, .int l2]) (st := [.long (1000007 : Int64), .long l3]) dX12_towns_149 sM_0 (by decide) rfl rfl gm_X12_townsWithout ml_X12_412 rfl (Nat.le_of_ble_eq_true rfl) (JC.mono h ?_)
      clear h
      rintro M2 _ ⟨r2, rfl, h⟩
      refine jw_st (st' := [.long r2, .long (1000007 : Int64), .long l3]) rfl ?_
      refine jw_lsub (pc := 152) dX12_towns_152 ?_
      refine jw_ladd (pc := 153) dX12_towns_153 ?_
      refine jw_lstore_n (pc := 154) (ls' := [(3, .long (l3 + ((1000007 : Int64) - r2))), (0, .ref (x.2.2.2 0)), (2, .int l2), (5, .int l5)]) dX12_towns_154 rfl (by decide) rfl ?_
      refine jw_iinc (pc := 155) (j := 3) (u := l5 + 1) (ls' := [(5, .int (l5 + 1)), (3, .long (l3 + ((1000007 : Int64) - r2))), (0, .ref (x.2.2.2 0)), (2, .int l2)]) dX12_towns_155 rfl rfl (by decide) rfl ?_
      refine jw_goto (pc := 158) (tgt := 113) dX12_towns_158 (by decide) ?_
      exact jw_sub [2, 3, 1, 0] rfl h
    · replace h := h.2 c
      refine jw_aload_n (pc := 132) (j := 0) dX12_towns_132 rfl rfl ?_
      refine jw_iload (pc := 133) (j := 3) dX12_towns_133 rfl ?_
      refine jw_iload_n (pc := 135) (j := 1) dX12_towns_135 rfl rfl ?_
      refine jw_callV (pc := 136) (m2 := mX12_townsWithout) (As := [.int l5, .int l2]) (st := [.long l3]) dX12_towns_136 sM_0 (by decide) rfl rfl gm_X12_townsWithout ml_X12_412 rfl (Nat.le_of_ble_eq_true rfl) (JC.mono h ?_)
      clear h
      rintro M3 _ ⟨r3, rfl, h⟩
      refine jw_st (st' := [.long r3, .long l3]) rfl ?_
      refine jw_goto (pc := 139) (tgt := 153) dX12_towns_139 (by decide) ?_
      refine jw_ladd (pc := 153) dX12_towns_153 ?_
      refine jw_lstore_n (pc := 154) (ls' := [(3, .long (l3 + r3)), (0, .ref (x.2.2.2 0)), (2, .int l2), (5, .int l5)]) dX12_towns_154 rfl (by decide) rfl ?_
      refine jw_iinc (pc := 155) (j := 3) (u := l5 + 1) (ls' := [(5, .int (l5 + 1)), (3, .long (l3 + r3)), (0, .ref (x.2.2.2 0)), (2, .int l2)]) dX12_towns_155 rfl rfl (by decide) rfl ?_
      refine jw_goto (pc := 158) (tgt := 113) dX12_towns_158 (by decide) ?_
      exact jw_sub [2, 3, 1, 0] rfl h
set_option maxRecDepth 20000 in
theorem b_X12_sure {x : jX} {d : Nat} {M : jM} {P : jM → Int32 → Prop} {a1 : Int32} {a2 : Int32} {a3 : Int32} 
    (h : ∀ M1, M1 = jrI M 0 (upd (M.1 0) 1 (0 : Int32)) → ∀ M2, M2 = jrI M1 0 (upd (M1.1 0) 0 (0 : Int32)) → JC x jtbM mX12_isSet d [.ref (x.2.2.2 0), .int a1] M2 (jZ fun M3 b1 => (b1 = false → JC x jtbM mX12_refuse d [.ref (x.2.2.2 0), .int (2 : Int32)] M3 (jI fun M4 r1 => P M4 r1)) ∧ (b1 = true → JC x jtbM mX12_isCell d [.ref (x.2.2.2 0), .int a2] M3 (jZ fun M5 b2 => (b2 = true → JC x jtbM mX12_isIn d [.long a3.toInt64, .long (0 : Int64), .long (1 : Int64)] M5 (jZ fun M6 b3 => (b3 = true → JC x jtbM mX12_ask d [.ref (x.2.2.2 0), .int a1] M6 (jV fun M7 => JC x jtbM mX12_canKeep d [.ref (x.2.2.2 0)] M7 (jZ fun M8 b4 => (b4 = true → (¬ a3 = (1 : Int32) → JW x jtbM mX12_sure (d + 1) (jI P) 82 [(0, .ref (x.2.2.2 0)), (2, .int a2), (4, .int (0 : Int32))] [] M8) ∧ (a3 = (1 : Int32) → ∃ j1, j1 < 25 ∧ a2 = nI j1 ∧ (P M8 (M8.1 9 j1)))) ∧ (b4 = false → JC x jtbM mX12_refuse d [.ref (x.2.2.2 0), .int (9 : Int32)] M8 (jI fun M9 r2 => P M9 r2))))) ∧ (b3 = false → JC x jtbM mX12_refuse d [.ref (x.2.2.2 0), .int (5 : Int32)] M6 (jI fun M10 r3 => P M10 r3)))) ∧ (b2 = false → JC x jtbM mX12_refuse d [.ref (x.2.2.2 0), .int (2 : Int32)] M5 (jI fun M11 r4 => P M11 r4)))))) :
    JC x jtbM mX12_sure (d + 1) [.ref (x.2.2.2 0), .int a1, .int a2, .int a3] M (jI P) := by
  refine JC.of rfl (Nat.le_of_ble_eq_true rfl) ?_
  refine jw_ls (ls' := [(0, .ref (x.2.2.2 0)), (1, .int a1), (2, .int a2), (3, .int a3)]) rfl ?_
  refine jw_aload_n (pc := 0) (j := 0) dX12_sure_0 rfl rfl ?_
  refine jw_iconst (pc := 1) (v := 0) dX12_sure_1 rfl ?_
  refine jw_putI (pc := 2) dX12_sure_2 sM_0 fl_X12_81 fw_12_1 (by decide) rfl ?_
  replace h := h _ rfl
  generalize jrI M 0 (upd (M.1 0) 1 (0 : Int32)) = M1 at h ⊢
  refine jw_aload_n (pc := 5) (j := 0) dX12_sure_5 rfl rfl ?_
  refine jw_iconst (pc := 6) (v := 0) dX12_sure_6 rfl ?_
  refine jw_putI (pc := 7) dX12_sure_7 sM_0 fl_X12_84 fw_12_0 (by decide) rfl ?_
  replace h := h _ rfl
  generalize jrI M1 0 (upd (M1.1 0) 0 (0 : Int32)) = M2 at h ⊢
  refine jw_aload_n (pc := 10) (j := 0) dX12_sure_10 rfl rfl ?_
  refine jw_iload_n (pc := 11) (j := 1) dX12_sure_11 rfl rfl ?_
  refine jw_callV (pc := 12) (m2 := mX12_isSet) (As := [.int a1]) (st := []) dX12_sure_12 sM_0 (by decide) rfl rfl gm_X12_isSet ml_X12_369 rfl (Nat.le_of_ble_eq_true rfl) (JC.mono h ?_)
  clear h
  rintro M3 _ ⟨b1, rfl, h⟩
  refine jw_st (st' := [.int (jb b1)]) rfl ?_
  refine jw_if_eq (pc := 15) (tgt := 26) dX12_sure_15 (by decide) (fun c => ?_) (fun c => ?_)
  · replace h := h.1 ((jb_0 _).mp c)
    refine jw_aload_n (pc := 26) (j := 0) dX12_sure_26 rfl rfl ?_
    refine jw_iconst (pc := 27) (v := 2) dX12_sure_27 rfl ?_
    refine jw_callV (pc := 28) (m2 := mX12_refuse) (As := [.int (2 : Int32)]) (st := []) dX12_sure_28 sM_0 (by decide) rfl rfl gm_X12_refuse ml_X12_316 rfl (Nat.le_of_ble_eq_true rfl) (JC.mono h ?_)
    clear h
    rintro M4 _ ⟨r1, rfl, h⟩
    refine jw_st (st' := [.int r1]) rfl ?_
    exact jw_iret (pc := 31) dX12_sure_31 rfl ⟨_, rfl, h⟩
  · replace h := h.2 (jb_ne c)
    refine jw_aload_n (pc := 18) (j := 0) dX12_sure_18 rfl rfl ?_
    refine jw_iload_n (pc := 19) (j := 2) dX12_sure_19 rfl rfl ?_
    refine jw_callV (pc := 20) (m2 := mX12_isCell) (As := [.int a2]) (st := []) dX12_sure_20 sM_0 (by decide) rfl rfl gm_X12_isCell ml_X12_319 rfl (Nat.le_of_ble_eq_true rfl) (JC.mono h ?_)
    clear h
    rintro M5 _ ⟨b2, rfl, h⟩
    refine jw_st (st' := [.int (jb b2)]) rfl ?_
    refine jw_if_ne (pc := 23) (tgt := 32) dX12_sure_23 (by decide) (fun c => ?_) (fun c => ?_)
    · replace h := h.1 (jb_ne c)
      refine jw_iload_n (pc := 32) (j := 3) dX12_sure_32 rfl rfl ?_
      refine jw_i2l (pc := 33) dX12_sure_33 ?_
      refine jw_lconst (pc := 34) (v := 0) dX12_sure_34 rfl ?_
      refine jw_lconst (pc := 35) (v := 1) dX12_sure_35 rfl ?_
      refine jw_callS (pc := 36) (m2 := mX12_isIn) (As := [.long a3.toInt64, .long (0 : Int64), .long (1 : Int64)]) (st := []) dX12_sure_36 gm_X12_isIn ml_X12_116 rfl (Nat.le_of_ble_eq_true rfl) (JC.mono h ?_)
      clear h
      rintro M6 _ ⟨b3, rfl, h⟩
      refine jw_st (st' := [.int (jb b3)]) rfl ?_
      refine jw_if_ne (pc := 39) (tgt := 48) dX12_sure_39 (by decide) (fun c => ?_) (fun c => ?_)
      · replace h := h.1 (jb_ne c)
        refine jw_aload_n (pc := 48) (j := 0) dX12_sure_48 rfl rfl ?_
        refine jw_iload_n (pc := 49) (j := 1) dX12_sure_49 rfl rfl ?_
        refine jw_callV (pc := 50) (m2 := mX12_ask) (As := [.int a1]) (st := []) dX12_sure_50 sM_0 (by decide) rfl rfl gm_X12_ask ml_X12_372 rfl (Nat.le_of_ble_eq_true rfl) (JC.mono h ?_)
        clear h
        rintro M7 _ ⟨rfl, h⟩
        refine jw_st (st' := []) rfl ?_
        refine jw_aload_n (pc := 53) (j := 0) dX12_sure_53 rfl rfl ?_
        refine jw_callV (pc := 54) (m2 := mX12_canKeep) (As := []) (st := []) dX12_sure_54 sM_0 (by decide) rfl rfl gm_X12_canKeep ml_X12_375 rfl (Nat.le_of_ble_eq_true rfl) (JC.mono h ?_)
        clear h
        rintro M8 _ ⟨b4, rfl, h⟩
        refine jw_st (st' := [.int (jb b4)]) rfl ?_
        refine jw_if_ne (pc := 57) (tgt := 67) dX12_sure_57 (by decide) (fun c => ?_) (fun c => ?_)
        · replace h := h.1 (jb_ne c)
          refine jw_iload_n (pc := 67) (j := 3) dX12_sure_67 rfl rfl ?_
          refine jw_iconst (pc := 68) (v := 1) dX12_sure_68 rfl ?_
          refine jw_icmp_ne (pc := 69) (tgt := 79) dX12_sure_69 (by decide) (fun c => ?_) (fun c => ?_)
          · replace h := h.1 c
            refine jw_iconst (pc := 79) (v := 0) dX12_sure_79 rfl ?_
            refine jw_istore (pc := 80) (ls' := [(4, .int (0 : Int32)), (0, .ref (x.2.2.2 0)), (1, .int a1), (2, .int a2), (3, .int a3)]) dX12_sure_80 (by decide) rfl ?_
            exact jw_sub [1, 3, 0] rfl h
          · replace h := h.2 c
            refine jw_aload_n (pc := 72) (j := 0) dX12_sure_72 rfl rfl ?_
            refine jw_getR (pc := 73) (r := 9) dX12_sure_73 sM_0 fl_X12_48 (by decide) rfl rfl ?_
            refine jw_iload_n (pc := 76) (j := 2) dX12_sure_76 rfl rfl ?_
            obtain ⟨j1, hj1, ej1, h⟩ := h
            refine jw_iald (pc := 77) (j := j1) dX12_sure_77 sM_9 hj1 ej1 (by decide) ?_
            exact jw_iret (pc := 78) dX12_sure_78 rfl ⟨_, rfl, h⟩
        · replace h := h.2 ((jb_0 _).mp c)
          refine jw_aload_n (pc := 60) (j := 0) dX12_sure_60 rfl rfl ?_
          refine jw_bipush (pc := 61) (v := 9) dX12_sure_61 rfl ?_
          refine jw_callV (pc := 63) (m2 := mX12_refuse) (As := [.int (9 : Int32)]) (st := []) dX12_sure_63 sM_0 (by decide) rfl rfl gm_X12_refuse ml_X12_316 rfl (Nat.le_of_ble_eq_true rfl) (JC.mono h ?_)
          clear h
          rintro M9 _ ⟨r2, rfl, h⟩
          refine jw_st (st' := [.int r2]) rfl ?_
          exact jw_iret (pc := 66) dX12_sure_66 rfl ⟨_, rfl, h⟩
      · replace h := h.2 ((jb_0 _).mp c)
        refine jw_aload_n (pc := 42) (j := 0) dX12_sure_42 rfl rfl ?_
        refine jw_iconst (pc := 43) (v := 5) dX12_sure_43 rfl ?_
        refine jw_callV (pc := 44) (m2 := mX12_refuse) (As := [.int (5 : Int32)]) (st := []) dX12_sure_44 sM_0 (by decide) rfl rfl gm_X12_refuse ml_X12_316 rfl (Nat.le_of_ble_eq_true rfl) (JC.mono h ?_)
        clear h
        rintro M10 _ ⟨r3, rfl, h⟩
        refine jw_st (st' := [.int r3]) rfl ?_
        exact jw_iret (pc := 47) dX12_sure_47 rfl ⟨_, rfl, h⟩
    · replace h := h.2 ((jb_0 _).mp c)
      refine jw_aload_n (pc := 26) (j := 0) dX12_sure_26 rfl rfl ?_
      refine jw_iconst (pc := 27) (v := 2) dX12_sure_27 rfl ?_
      refine jw_callV (pc := 28) (m2 := mX12_refuse) (As := [.int (2 : Int32)]) (st := []) dX12_sure_28 sM_0 (by decide) rfl rfl gm_X12_refuse ml_X12_316 rfl (Nat.le_of_ble_eq_true rfl) (JC.mono h ?_)
      clear h
      rintro M11 _ ⟨r4, rfl, h⟩
      refine jw_st (st' := [.int r4]) rfl ?_
      exact jw_iret (pc := 31) dX12_sure_31 rfl ⟨_, rfl, h⟩
set_option maxRecDepth 20000 in
theorem b_X12_sure_82 {x : jX} {d : Nat} {M : jM} {P : jM → Int32 → Prop} {l2 : Int32} {l4 : Int32} 
    (h : ((M.1 5 2) ≤ l4 → ∃ j1, j1 < 2060 ∧ (28 : Int32) + l2 = nI j1 ∧ (P M (M.1 5 j1))) ∧ (¬ (M.1 5 2) ≤ l4 → ∃ j2, j2 < 6 ∧ l4 = nI j2 ∧ (((M.1 7 j2) = 0 → JW x jtbM mX12_sure (d + 1) (jI P) 82 [(0, .ref (x.2.2.2 0)), (2, .int l2), (4, .int (l4 + 1))] [] M) ∧ (¬ (M.1 7 j2) = 0 → ∃ j3, j3 < 2060 ∧ (78 : Int32) + l4 = nI j3 ∧ (JC x jtbM mX12_stripOf d [.ref (x.2.2.2 0), .int (M.1 5 j3), .int l2] M (jI fun M1 r1 => JC x jtbM mX12_ableIn d [.ref (x.2.2.2 0), .int l4, .int r1] M1 (jI fun M2 r2 => (¬ r2 = ((1 : Int32) <<< (l2 &&& 31)) → JW x jtbM mX12_sure (d + 1) (jI P) 82 [(0, .ref (x.2.2.2 0)), (2, .int l2), (4, .int (l4 + 1))] [] M2) ∧ (r2 = ((1 : Int32) <<< (l2 &&& 31)) → ∃ j4, j4 < 25 ∧ l2 = nI j4 ∧ (P M2 (M2.1 9 j4)))))))))) :
    JW x jtbM mX12_sure (d + 1) (jI P) 82 [(0, .ref (x.2.2.2 0)), (2, .int l2), (4, .int l4)] [] M := by
  refine jw_iload (pc := 82) (j := 2) dX12_sure_82 rfl ?_
  refine jw_aload_n (pc := 84) (j := 0) dX12_sure_84 rfl rfl ?_
  refine jw_getR (pc := 85) (r := 5) dX12_sure_85 sM_0 fl_X12_35 (by decide) rfl rfl ?_
  refine jw_iconst (pc := 88) (v := 2) dX12_sure_88 rfl ?_
  refine jw_iald (pc := 89) (j := 2) dX12_sure_89 sM_5 (by decide) rfl (by decide) ?_
  refine jw_icmp_ge (pc := 90) (tgt := 143) dX12_sure_90 (by decide) (fun c => ?_) (fun c => ?_)
  · replace h := h.1 c
    refine jw_aload_n (pc := 143) (j := 0) dX12_sure_143 rfl rfl ?_
    refine jw_getR (pc := 144) (r := 5) dX12_sure_144 sM_0 fl_X12_35 (by decide) rfl rfl ?_
    refine jw_bipush (pc := 147) (v := 28) dX12_sure_147 rfl ?_
    refine jw_iload_n (pc := 149) (j := 1) dX12_sure_149 rfl rfl ?_
    refine jw_iadd (pc := 150) dX12_sure_150 ?_
    obtain ⟨j1, hj1, ej1, h⟩ := h
    refine jw_iald (pc := 151) (j := j1) dX12_sure_151 sM_5 hj1 ej1 (by decide) ?_
    exact jw_iret (pc := 152) dX12_sure_152 rfl ⟨_, rfl, h⟩
  · replace h := h.2 c
    refine jw_aload_n (pc := 93) (j := 0) dX12_sure_93 rfl rfl ?_
    refine jw_getR (pc := 94) (r := 7) dX12_sure_94 sM_0 fl_X12_41 (by decide) rfl rfl ?_
    refine jw_iload (pc := 97) (j := 2) dX12_sure_97 rfl ?_
    obtain ⟨j2, hj2, ej2, h⟩ := h
    refine jw_zald (pc := 99) (j := j2) dX12_sure_99 sM_7 hj2 ej2 (by decide) ?_
    refine jw_if_eq (pc := 100) (tgt := 137) dX12_sure_100 (by decide) (fun c => ?_) (fun c => ?_)
    · replace h := h.1 c
      refine jw_iinc (pc := 137) (j := 2) (u := l4 + 1) (ls' := [(4, .int (l4 + 1)), (0, .ref (x.2.2.2 0)), (2, .int l2)]) dX12_sure_137 rfl rfl (by decide) rfl ?_
      refine jw_goto (pc := 140) (tgt := 82) dX12_sure_140 (by decide) ?_
      exact jw_sub [1, 2, 0] rfl h
    · replace h := h.2 c
      refine jw_aload_n (pc := 103) (j := 0) dX12_sure_103 rfl rfl ?_
      refine jw_iload (pc := 104) (j := 2) dX12_sure_104 rfl ?_
      refine jw_aload_n (pc := 106) (j := 0) dX12_sure_106 rfl rfl ?_
      refine jw_aload_n (pc := 107) (j := 0) dX12_sure_107 rfl rfl ?_
      refine jw_getR (pc := 108) (r := 5) dX12_sure_108 sM_0 fl_X12_35 (by decide) rfl rfl ?_
      refine jw_bipush (pc := 111) (v := 78) dX12_sure_111 rfl ?_
      refine jw_iload (pc := 113) (j := 2) dX12_sure_113 rfl ?_
      refine jw_iadd (pc := 115) dX12_sure_115 ?_
      obtain ⟨j3, hj3, ej3, h⟩ := h
      refine jw_iald (pc := 116) (j := j3) dX12_sure_116 sM_5 hj3 ej3 (by decide) ?_
      refine jw_iload_n (pc := 117) (j := 1) dX12_sure_117 rfl rfl ?_
      refine jw_callV (pc := 118) (m2 := mX12_stripOf) (As := [.int (M.1 5 j3), .int l2]) (st := [.int l4, .ref (x.2.2.2 0)]) dX12_sure_118 sM_0 (by decide) rfl rfl gm_X12_stripOf ml_X12_327 rfl (Nat.le_of_ble_eq_true rfl) (JC.mono h ?_)
      clear h
      rintro M1 _ ⟨r1, rfl, h⟩
      refine jw_st (st' := [.int r1, .int l4, .ref (x.2.2.2 0)]) rfl ?_
      refine jw_callV (pc := 121) (m2 := mX12_ableIn) (As := [.int l4, .int r1]) (st := []) dX12_sure_121 sM_0 (by decide) rfl rfl gm_X12_ableIn ml_X12_366 rfl (Nat.le_of_ble_eq_true rfl) (JC.mono h ?_)
      clear h
      rintro M2 _ ⟨r2, rfl, h⟩
      refine jw_st (st' := [.int r2]) rfl ?_
      refine jw_iconst (pc := 124) (v := 1) dX12_sure_124 rfl ?_
      refine jw_iload_n (pc := 125) (j := 1) dX12_sure_125 rfl rfl ?_
      refine jw_ishl (pc := 126) dX12_sure_126 ?_
      refine jw_icmp_ne (pc := 127) (tgt := 137) dX12_sure_127 (by decide) (fun c => ?_) (fun c => ?_)
      · replace h := h.1 c
        refine jw_iinc (pc := 137) (j := 2) (u := l4 + 1) (ls' := [(4, .int (l4 + 1)), (0, .ref (x.2.2.2 0)), (2, .int l2)]) dX12_sure_137 rfl rfl (by decide) rfl ?_
        refine jw_goto (pc := 140) (tgt := 82) dX12_sure_140 (by decide) ?_
        exact jw_sub [1, 2, 0] rfl h
      · replace h := h.2 c
        refine jw_aload_n (pc := 130) (j := 0) dX12_sure_130 rfl rfl ?_
        refine jw_getR (pc := 131) (r := 9) dX12_sure_131 sM_0 fl_X12_48 (by decide) rfl rfl ?_
        refine jw_iload_n (pc := 134) (j := 1) dX12_sure_134 rfl rfl ?_
        obtain ⟨j4, hj4, ej4, h⟩ := h
        refine jw_iald (pc := 135) (j := j4) dX12_sure_135 sM_9 hj4 ej4 (by decide) ?_
        exact jw_iret (pc := 136) dX12_sure_136 rfl ⟨_, rfl, h⟩
set_option maxRecDepth 20000 in
theorem b_X12_struck {x : jX} {d : Nat} {M : jM} {P : jM → Int32 → Prop}  
    (h : ∀ M1, M1 = jrI M 0 (upd (M.1 0) 1 (0 : Int32)) → ∀ M2, M2 = jrI M1 0 (upd (M1.1 0) 0 (0 : Int32)) → JW x jtbM mX12_struck (d + 1) (jI P) 14 [(0, .ref (x.2.2.2 0)), (1, .int (0 : Int32)), (2, .int (0 : Int32))] [] M2) :
    JC x jtbM mX12_struck (d + 1) [.ref (x.2.2.2 0)] M (jI P) := by
  refine JC.of rfl (Nat.le_of_ble_eq_true rfl) ?_
  refine jw_ls (ls' := [(0, .ref (x.2.2.2 0))]) rfl ?_
  refine jw_aload_n (pc := 0) (j := 0) dX12_struck_0 rfl rfl ?_
  refine jw_iconst (pc := 1) (v := 0) dX12_struck_1 rfl ?_
  refine jw_putI (pc := 2) dX12_struck_2 sM_0 fl_X12_81 fw_12_1 (by decide) rfl ?_
  replace h := h _ rfl
  generalize jrI M 0 (upd (M.1 0) 1 (0 : Int32)) = M1 at h ⊢
  refine jw_aload_n (pc := 5) (j := 0) dX12_struck_5 rfl rfl ?_
  refine jw_iconst (pc := 6) (v := 0) dX12_struck_6 rfl ?_
  refine jw_putI (pc := 7) dX12_struck_7 sM_0 fl_X12_84 fw_12_0 (by decide) rfl ?_
  replace h := h _ rfl
  generalize jrI M1 0 (upd (M1.1 0) 0 (0 : Int32)) = M2 at h ⊢
  refine jw_iconst (pc := 10) (v := 0) dX12_struck_10 rfl ?_
  refine jw_istore_n (pc := 11) (ls' := [(1, .int (0 : Int32)), (0, .ref (x.2.2.2 0))]) dX12_struck_11 rfl (by decide) rfl ?_
  refine jw_iconst (pc := 12) (v := 0) dX12_struck_12 rfl ?_
  refine jw_istore_n (pc := 13) (ls' := [(2, .int (0 : Int32)), (1, .int (0 : Int32)), (0, .ref (x.2.2.2 0))]) dX12_struck_13 rfl (by decide) rfl ?_
  exact jw_sub [2, 1, 0] rfl h
set_option maxRecDepth 20000 in
theorem b_X12_struck_14 {x : jX} {d : Nat} {M : jM} {P : jM → Int32 → Prop} {l1 : Int32} {l2 : Int32} 
    (h : ((M.1 5 2) ≤ l2 → JW x jtbM mX12_struck (d + 1) (jI P) 48 [(0, .ref (x.2.2.2 0)), (1, .int l1), (2, .int (-1 : Int32)), (3, .int (0 : Int32))] [] M) ∧ (¬ (M.1 5 2) ≤ l2 → ∃ j1, j1 < 2060 ∧ (84 : Int32) + l2 = nI j1 ∧ (JW x jtbM mX12_struck (d + 1) (jI P) 14 [(0, .ref (x.2.2.2 0)), (1, .int (l1 ||| ((M.1 5 j1) <<< (l2 &&& 31)))), (2, .int (l2 + 1))] [] M))) :
    JW x jtbM mX12_struck (d + 1) (jI P) 14 [(0, .ref (x.2.2.2 0)), (1, .int l1), (2, .int l2)] [] M := by
  refine jw_iload_n (pc := 14) (j := 2) dX12_struck_14 rfl rfl ?_
  refine jw_aload_n (pc := 15) (j := 0) dX12_struck_15 rfl rfl ?_
  refine jw_getR (pc := 16) (r := 5) dX12_struck_16 sM_0 fl_X12_35 (by decide) rfl rfl ?_
  refine jw_iconst (pc := 19) (v := 2) dX12_struck_19 rfl ?_
  refine jw_iald (pc := 20) (j := 2) dX12_struck_20 sM_5 (by decide) rfl (by decide) ?_
  refine jw_icmp_ge (pc := 21) (tgt := 44) dX12_struck_21 (by decide) (fun c => ?_) (fun c => ?_)
  · replace h := h.1 c
    refine jw_iconst (pc := 44) (v := (-1)) dX12_struck_44 rfl ?_
    refine jw_istore_n (pc := 45) (ls' := [(2, .int (-1 : Int32)), (0, .ref (x.2.2.2 0)), (1, .int l1)]) dX12_struck_45 rfl (by decide) rfl ?_
    refine jw_iconst (pc := 46) (v := 0) dX12_struck_46 rfl ?_
    refine jw_istore_n (pc := 47) (ls' := [(3, .int (0 : Int32)), (2, .int (-1 : Int32)), (0, .ref (x.2.2.2 0)), (1, .int l1)]) dX12_struck_47 rfl (by decide) rfl ?_
    exact jw_sub [2, 3, 1, 0] rfl h
  · replace h := h.2 c
    refine jw_iload_n (pc := 24) (j := 1) dX12_struck_24 rfl rfl ?_
    refine jw_aload_n (pc := 25) (j := 0) dX12_struck_25 rfl rfl ?_
    refine jw_getR (pc := 26) (r := 5) dX12_struck_26 sM_0 fl_X12_35 (by decide) rfl rfl ?_
    refine jw_bipush (pc := 29) (v := 84) dX12_struck_29 rfl ?_
    refine jw_iload_n (pc := 31) (j := 2) dX12_struck_31 rfl rfl ?_
    refine jw_iadd (pc := 32) dX12_struck_32 ?_
    obtain ⟨j1, hj1, ej1, h⟩ := h
    refine jw_iald (pc := 33) (j := j1) dX12_struck_33 sM_5 hj1 ej1 (by decide) ?_
    refine jw_iload_n (pc := 34) (j := 2) dX12_struck_34 rfl rfl ?_
    refine jw_ishl (pc := 35) dX12_struck_35 ?_
    refine jw_ior (pc := 36) dX12_struck_36 ?_
    refine jw_istore_n (pc := 37) (ls' := [(1, .int (l1 ||| ((M.1 5 j1) <<< (l2 &&& 31)))), (0, .ref (x.2.2.2 0)), (2, .int l2)]) dX12_struck_37 rfl (by decide) rfl ?_
    refine jw_iinc (pc := 38) (j := 2) (u := l2 + 1) (ls' := [(2, .int (l2 + 1)), (1, .int (l1 ||| ((M.1 5 j1) <<< (l2 &&& 31)))), (0, .ref (x.2.2.2 0))]) dX12_struck_38 rfl rfl (by decide) rfl ?_
    refine jw_goto (pc := 41) (tgt := 14) dX12_struck_41 (by decide) ?_
    exact jw_sub [2, 1, 0] rfl h
set_option maxRecDepth 20000 in
theorem b_X12_struck_48 {x : jX} {d : Nat} {M : jM} {P : jM → Int32 → Prop} {l1 : Int32} {l2 : Int32} {l3 : Int32} 
    (h : (l1 < l3 → (0 ≤ l2 → P M l2) ∧ (¬ 0 ≤ l2 → JC x jtbM mX12_refuse d [.ref (x.2.2.2 0), .int (9 : Int32)] M (jI fun M1 r1 => P M1 r1))) ∧ (¬ l1 < l3 → (¬ (l3 &&& (l1 ^^^ (-1 : Int32))) = 0 → JW x jtbM mX12_struck (d + 1) (jI P) 48 [(0, .ref (x.2.2.2 0)), (1, .int l1), (2, .int l2), (3, .int (l3 + 1))] [] M) ∧ ((l3 &&& (l1 ^^^ (-1 : Int32))) = 0 → (l2 < 0 → JW x jtbM mX12_struck (d + 1) (jI P) 79 [(0, .ref (x.2.2.2 0)), (1, .int l1), (2, .int l2), (3, .int l3)] [] M) ∧ (¬ l2 < 0 → JC x jtbM mX12_bits d [.int l3] M (jI fun M2 r2 => JC x jtbM mX12_bits d [.int l2] M2 (jI fun M3 r3 => (r2 < r3 → JW x jtbM mX12_struck (d + 1) (jI P) 79 [(0, .ref (x.2.2.2 0)), (1, .int l1), (2, .int l2), (3, .int l3)] [] M3) ∧ (¬ r2 < r3 → JW x jtbM mX12_struck (d + 1) (jI P) 48 [(0, .ref (x.2.2.2 0)), (1, .int l1), (2, .int l2), (3, .int (l3 + 1))] [] M3))))))) :
    JW x jtbM mX12_struck (d + 1) (jI P) 48 [(0, .ref (x.2.2.2 0)), (1, .int l1), (2, .int l2), (3, .int l3)] [] M := by
  refine jw_iload_n (pc := 48) (j := 3) dX12_struck_48 rfl rfl ?_
  refine jw_iload_n (pc := 49) (j := 1) dX12_struck_49 rfl rfl ?_
  refine jw_icmp_gt (pc := 50) (tgt := 103) dX12_struck_50 (by decide) (fun c => ?_) (fun c => ?_)
  · replace h := h.1 c
    refine jw_iload_n (pc := 103) (j := 2) dX12_struck_103 rfl rfl ?_
    refine jw_if_ge (pc := 104) (tgt := 116) dX12_struck_104 (by decide) (fun c => ?_) (fun c => ?_)
    · replace h := h.1 c
      refine jw_iload_n (pc := 116) (j := 2) dX12_struck_116 rfl rfl ?_
      exact jw_iret (pc := 117) dX12_struck_117 rfl ⟨_, rfl, h⟩
    · replace h := h.2 c
      refine jw_aload_n (pc := 107) (j := 0) dX12_struck_107 rfl rfl ?_
      refine jw_bipush (pc := 108) (v := 9) dX12_struck_108 rfl ?_
      refine jw_callV (pc := 110) (m2 := mX12_refuse) (As := [.int (9 : Int32)]) (st := []) dX12_struck_110 sM_0 (by decide) rfl rfl gm_X12_refuse ml_X12_316 rfl (Nat.le_of_ble_eq_true rfl) (JC.mono h ?_)
      clear h
      rintro M1 _ ⟨r1, rfl, h⟩
      refine jw_st (st' := [.int r1]) rfl ?_
      refine jw_goto (pc := 113) (tgt := 117) dX12_struck_113 (by decide) ?_
      exact jw_iret (pc := 117) dX12_struck_117 rfl ⟨_, rfl, h⟩
  · replace h := h.2 c
    refine jw_iload_n (pc := 53) (j := 3) dX12_struck_53 rfl rfl ?_
    refine jw_iload_n (pc := 54) (j := 1) dX12_struck_54 rfl rfl ?_
    refine jw_iconst (pc := 55) (v := (-1)) dX12_struck_55 rfl ?_
    refine jw_ixor (pc := 56) dX12_struck_56 ?_
    refine jw_iand (pc := 57) dX12_struck_57 ?_
    refine jw_if_ne (pc := 58) (tgt := 97) dX12_struck_58 (by decide) (fun c => ?_) (fun c => ?_)
    · replace h := h.1 c
      refine jw_iinc (pc := 97) (j := 3) (u := l3 + 1) (ls' := [(3, .int (l3 + 1)), (0, .ref (x.2.2.2 0)), (1, .int l1), (2, .int l2)]) dX12_struck_97 rfl rfl (by decide) rfl ?_
      refine jw_goto (pc := 100) (tgt := 48) dX12_struck_100 (by decide) ?_
      exact jw_sub [1, 2, 3, 0] rfl h
    · replace h := h.2 c
      refine jw_iload_n (pc := 61) (j := 2) dX12_struck_61 rfl rfl ?_
      refine jw_if_lt (pc := 62) (tgt := 79) dX12_struck_62 (by decide) (fun c => ?_) (fun c => ?_)
      · replace h := h.1 c
        exact jw_sub [0, 1, 2, 3] rfl h
      · replace h := h.2 c
        refine jw_iload_n (pc := 65) (j := 3) dX12_struck_65 rfl rfl ?_
        refine jw_callS (pc := 66) (m2 := mX12_bits) (As := [.int l3]) (st := []) dX12_struck_66 gm_X12_bits ml_X12_387 rfl (Nat.le_of_ble_eq_true rfl) (JC.mono h ?_)
        clear h
        rintro M2 _ ⟨r2, rfl, h⟩
        refine jw_st (st' := [.int r2]) rfl ?_
        refine jw_iload_n (pc := 69) (j := 2) dX12_struck_69 rfl rfl ?_
        refine jw_callS (pc := 70) (m2 := mX12_bits) (As := [.int l2]) (st := [.int r2]) dX12_struck_70 gm_X12_bits ml_X12_387 rfl (Nat.le_of_ble_eq_true rfl) (JC.mono h ?_)
        clear h
        rintro M3 _ ⟨r3, rfl, h⟩
        refine jw_st (st' := [.int r3, .int r2]) rfl ?_
        refine jw_icmp_lt (pc := 73) (tgt := 79) dX12_struck_73 (by decide) (fun c => ?_) (fun c => ?_)
        · replace h := h.1 c
          exact jw_sub [0, 1, 2, 3] rfl h
        · replace h := h.2 c
          refine jw_goto (pc := 76) (tgt := 97) dX12_struck_76 (by decide) ?_
          refine jw_iinc (pc := 97) (j := 3) (u := l3 + 1) (ls' := [(3, .int (l3 + 1)), (0, .ref (x.2.2.2 0)), (1, .int l1), (2, .int l2)]) dX12_struck_97 rfl rfl (by decide) rfl ?_
          refine jw_goto (pc := 100) (tgt := 48) dX12_struck_100 (by decide) ?_
          exact jw_sub [1, 2, 3, 0] rfl h
set_option maxRecDepth 20000 in
theorem b_X12_struck_79 {x : jX} {d : Nat} {M : jM} {P : jM → Int32 → Prop} {l1 : Int32} {l2 : Int32} {l3 : Int32} 
    (h : JC x jtbM mX12_ask d [.ref (x.2.2.2 0), .int (l1 &&& (l3 ^^^ (-1 : Int32)))] M (jV fun M1 => JC x jtbM mX12_canKeep d [.ref (x.2.2.2 0)] M1 (jZ fun M2 b1 => (b1 = false → JW x jtbM mX12_struck (d + 1) (jI P) 48 [(0, .ref (x.2.2.2 0)), (1, .int l1), (2, .int l2), (3, .int (l3 + 1))] [] M2) ∧ (b1 = true → JW x jtbM mX12_struck (d + 1) (jI P) 48 [(0, .ref (x.2.2.2 0)), (1, .int l1), (2, .int l3), (3, .int (l3 + 1))] [] M2)))) :
    JW x jtbM mX12_struck (d + 1) (jI P) 79 [(0, .ref (x.2.2.2 0)), (1, .int l1), (2, .int l2), (3, .int l3)] [] M := by
  refine jw_aload_n (pc := 79) (j := 0) dX12_struck_79 rfl rfl ?_
  refine jw_iload_n (pc := 80) (j := 1) dX12_struck_80 rfl rfl ?_
  refine jw_iload_n (pc := 81) (j := 3) dX12_struck_81 rfl rfl ?_
  refine jw_iconst (pc := 82) (v := (-1)) dX12_struck_82 rfl ?_
  refine jw_ixor (pc := 83) dX12_struck_83 ?_
  refine jw_iand (pc := 84) dX12_struck_84 ?_
  refine jw_callV (pc := 85) (m2 := mX12_ask) (As := [.int (l1 &&& (l3 ^^^ (-1 : Int32)))]) (st := []) dX12_struck_85 sM_0 (by decide) rfl rfl gm_X12_ask ml_X12_372 rfl (Nat.le_of_ble_eq_true rfl) (JC.mono h ?_)
  clear h
  rintro M1 _ ⟨rfl, h⟩
  refine jw_st (st' := []) rfl ?_
  refine jw_aload_n (pc := 88) (j := 0) dX12_struck_88 rfl rfl ?_
  refine jw_callV (pc := 89) (m2 := mX12_canKeep) (As := []) (st := []) dX12_struck_89 sM_0 (by decide) rfl rfl gm_X12_canKeep ml_X12_375 rfl (Nat.le_of_ble_eq_true rfl) (JC.mono h ?_)
  clear h
  rintro M2 _ ⟨b1, rfl, h⟩
  refine jw_st (st' := [.int (jb b1)]) rfl ?_
  refine jw_if_eq (pc := 92) (tgt := 97) dX12_struck_92 (by decide) (fun c => ?_) (fun c => ?_)
  · replace h := h.1 ((jb_0 _).mp c)
    refine jw_iinc (pc := 97) (j := 3) (u := l3 + 1) (ls' := [(3, .int (l3 + 1)), (0, .ref (x.2.2.2 0)), (1, .int l1), (2, .int l2)]) dX12_struck_97 rfl rfl (by decide) rfl ?_
    refine jw_goto (pc := 100) (tgt := 48) dX12_struck_100 (by decide) ?_
    exact jw_sub [1, 2, 3, 0] rfl h
  · replace h := h.2 (jb_ne c)
    refine jw_iload_n (pc := 95) (j := 3) dX12_struck_95 rfl rfl ?_
    refine jw_istore_n (pc := 96) (ls' := [(2, .int l3), (0, .ref (x.2.2.2 0)), (1, .int l1), (3, .int l3)]) dX12_struck_96 rfl (by decide) rfl ?_
    refine jw_iinc (pc := 97) (j := 3) (u := l3 + 1) (ls' := [(3, .int (l3 + 1)), (2, .int l3), (0, .ref (x.2.2.2 0)), (1, .int l1)]) dX12_struck_97 rfl rfl (by decide) rfl ?_
    refine jw_goto (pc := 100) (tgt := 48) dX12_struck_100 (by decide) ?_
    exact jw_sub [2, 3, 1, 0] rfl h
set_option maxRecDepth 20000 in
theorem b_X12_down {x : jX} {d : Nat} {M : jM} {P : jM → Int32 → Prop} {a1 : Int32} 
    (h : ∀ M1, M1 = jrI M 0 (upd (M.1 0) 1 (0 : Int32)) → ∀ M2, M2 = jrI M1 0 (upd (M1.1 0) 0 (0 : Int32)) → JC x jtbM mX12_isCell d [.ref (x.2.2.2 0), .int a1] M2 (jZ fun M3 b1 => (b1 = true → ∃ j1, j1 < 2060 ∧ (144 : Int32) + a1 = nI j1 ∧ (JW x jtbM mX12_down (d + 1) (jI P) 40 [(0, .ref (x.2.2.2 0)), (1, .int a1), (2, .int (M3.1 5 j1)), (3, .int (0 : Int32)), (4, .int (0 : Int32))] [] M3)) ∧ (b1 = false → JC x jtbM mX12_refuse d [.ref (x.2.2.2 0), .int (2 : Int32)] M3 (jI fun M4 r1 => P M4 r1)))) :
    JC x jtbM mX12_down (d + 1) [.ref (x.2.2.2 0), .int a1] M (jI P) := by
  refine JC.of rfl (Nat.le_of_ble_eq_true rfl) ?_
  refine jw_ls (ls' := [(0, .ref (x.2.2.2 0)), (1, .int a1)]) rfl ?_
  refine jw_aload_n (pc := 0) (j := 0) dX12_down_0 rfl rfl ?_
  refine jw_iconst (pc := 1) (v := 0) dX12_down_1 rfl ?_
  refine jw_putI (pc := 2) dX12_down_2 sM_0 fl_X12_81 fw_12_1 (by decide) rfl ?_
  replace h := h _ rfl
  generalize jrI M 0 (upd (M.1 0) 1 (0 : Int32)) = M1 at h ⊢
  refine jw_aload_n (pc := 5) (j := 0) dX12_down_5 rfl rfl ?_
  refine jw_iconst (pc := 6) (v := 0) dX12_down_6 rfl ?_
  refine jw_putI (pc := 7) dX12_down_7 sM_0 fl_X12_84 fw_12_0 (by decide) rfl ?_
  replace h := h _ rfl
  generalize jrI M1 0 (upd (M1.1 0) 0 (0 : Int32)) = M2 at h ⊢
  refine jw_aload_n (pc := 10) (j := 0) dX12_down_10 rfl rfl ?_
  refine jw_iload_n (pc := 11) (j := 1) dX12_down_11 rfl rfl ?_
  refine jw_callV (pc := 12) (m2 := mX12_isCell) (As := [.int a1]) (st := []) dX12_down_12 sM_0 (by decide) rfl rfl gm_X12_isCell ml_X12_319 rfl (Nat.le_of_ble_eq_true rfl) (JC.mono h ?_)
  clear h
  rintro M3 _ ⟨b1, rfl, h⟩
  refine jw_st (st' := [.int (jb b1)]) rfl ?_
  refine jw_if_ne (pc := 15) (tgt := 24) dX12_down_15 (by decide) (fun c => ?_) (fun c => ?_)
  · replace h := h.1 (jb_ne c)
    refine jw_aload_n (pc := 24) (j := 0) dX12_down_24 rfl rfl ?_
    refine jw_getR (pc := 25) (r := 5) dX12_down_25 sM_0 fl_X12_35 (by decide) rfl rfl ?_
    refine jw_sipush (pc := 28) (v := 144) dX12_down_28 rfl ?_
    refine jw_iload_n (pc := 31) (j := 1) dX12_down_31 rfl rfl ?_
    refine jw_iadd (pc := 32) dX12_down_32 ?_
    obtain ⟨j1, hj1, ej1, h⟩ := h
    refine jw_iald (pc := 33) (j := j1) dX12_down_33 sM_5 hj1 ej1 (by decide) ?_
    refine jw_istore_n (pc := 34) (ls' := [(2, .int (M3.1 5 j1)), (0, .ref (x.2.2.2 0)), (1, .int a1)]) dX12_down_34 rfl (by decide) rfl ?_
    refine jw_iconst (pc := 35) (v := 0) dX12_down_35 rfl ?_
    refine jw_istore_n (pc := 36) (ls' := [(3, .int (0 : Int32)), (2, .int (M3.1 5 j1)), (0, .ref (x.2.2.2 0)), (1, .int a1)]) dX12_down_36 rfl (by decide) rfl ?_
    refine jw_iconst (pc := 37) (v := 0) dX12_down_37 rfl ?_
    refine jw_istore (pc := 38) (ls' := [(4, .int (0 : Int32)), (3, .int (0 : Int32)), (2, .int (M3.1 5 j1)), (0, .ref (x.2.2.2 0)), (1, .int a1)]) dX12_down_38 (by decide) rfl ?_
    exact jw_sub [3, 4, 2, 1, 0] rfl h
  · replace h := h.2 ((jb_0 _).mp c)
    refine jw_aload_n (pc := 18) (j := 0) dX12_down_18 rfl rfl ?_
    refine jw_iconst (pc := 19) (v := 2) dX12_down_19 rfl ?_
    refine jw_callV (pc := 20) (m2 := mX12_refuse) (As := [.int (2 : Int32)]) (st := []) dX12_down_20 sM_0 (by decide) rfl rfl gm_X12_refuse ml_X12_316 rfl (Nat.le_of_ble_eq_true rfl) (JC.mono h ?_)
    clear h
    rintro M4 _ ⟨r1, rfl, h⟩
    refine jw_st (st' := [.int r1]) rfl ?_
    exact jw_iret (pc := 23) dX12_down_23 rfl ⟨_, rfl, h⟩
set_option maxRecDepth 20000 in
theorem b_X12_down_40 {x : jX} {d : Nat} {M : jM} {P : jM → Int32 → Prop} {l1 : Int32} {l2 : Int32} {l3 : Int32} {l4 : Int32} 
    (h : ((M.1 5 2) ≤ l4 → P M l3) ∧ (¬ (M.1 5 2) ≤ l4 → ∃ j1, j1 < 2060 ∧ (78 : Int32) + l4 = nI j1 ∧ (JC x jtbM mX12_stripOf d [.ref (x.2.2.2 0), .int (M.1 5 j1), .int l1] M (jI fun M1 r1 => JC x jtbM mX12_seenFrom d [.ref (x.2.2.2 0), .int (M1.1 5 j1), .int r1] M1 (jI fun M2 r2 => ∃ j2, j2 < 2060 ∧ (28 : Int32) + l1 = nI j2 ∧ (JC x jtbM mJ9_min_7cf53 d [.int l2, .int (M2.1 5 j2)] M2 (jI fun M3 r3 => ∃ j3, j3 < 2060 ∧ (144 : Int32) + l1 = nI j3 ∧ (∀ M4, M4 = jrI M3 5 (upd (M3.1 5) j3 r3) → JC x jtbM mX12_seenFrom d [.ref (x.2.2.2 0), .int (M4.1 5 j1), .int r1] M4 (jI fun M5 r4 => (¬ r4 = r2 → JW x jtbM mX12_down (d + 1) (jI P) 136 [(0, .ref (x.2.2.2 0)), (1, .int l1), (2, .int l2), (4, .int l4)] [.int (1 : Int32), .int l3] M5) ∧ (r4 = r2 → JW x jtbM mX12_down (d + 1) (jI P) 136 [(0, .ref (x.2.2.2 0)), (1, .int l1), (2, .int l2), (4, .int l4)] [.int (0 : Int32), .int l3] M5)))))))))) :
    JW x jtbM mX12_down (d + 1) (jI P) 40 [(0, .ref (x.2.2.2 0)), (1, .int l1), (2, .int l2), (3, .int l3), (4, .int l4)] [] M := by
  refine jw_iload (pc := 40) (j := 4) dX12_down_40 rfl ?_
  refine jw_aload_n (pc := 42) (j := 0) dX12_down_42 rfl rfl ?_
  refine jw_getR (pc := 43) (r := 5) dX12_down_43 sM_0 fl_X12_35 (by decide) rfl rfl ?_
  refine jw_iconst (pc := 46) (v := 2) dX12_down_46 rfl ?_
  refine jw_iald (pc := 47) (j := 2) dX12_down_47 sM_5 (by decide) rfl (by decide) ?_
  refine jw_icmp_ge (pc := 48) (tgt := 155) dX12_down_48 (by decide) (fun c => ?_) (fun c => ?_)
  · replace h := h.1 c
    refine jw_iload_n (pc := 155) (j := 3) dX12_down_155 rfl rfl ?_
    exact jw_iret (pc := 156) dX12_down_156 rfl ⟨_, rfl, h⟩
  · replace h := h.2 c
    refine jw_aload_n (pc := 51) (j := 0) dX12_down_51 rfl rfl ?_
    refine jw_aload_n (pc := 52) (j := 0) dX12_down_52 rfl rfl ?_
    refine jw_getR (pc := 53) (r := 5) dX12_down_53 sM_0 fl_X12_35 (by decide) rfl rfl ?_
    refine jw_bipush (pc := 56) (v := 78) dX12_down_56 rfl ?_
    refine jw_iload (pc := 58) (j := 4) dX12_down_58 rfl ?_
    refine jw_iadd (pc := 60) dX12_down_60 ?_
    obtain ⟨j1, hj1, ej1, h⟩ := h
    refine jw_iald (pc := 61) (j := j1) dX12_down_61 sM_5 hj1 ej1 (by decide) ?_
    refine jw_iload_n (pc := 62) (j := 1) dX12_down_62 rfl rfl ?_
    refine jw_callV (pc := 63) (m2 := mX12_stripOf) (As := [.int (M.1 5 j1), .int l1]) (st := []) dX12_down_63 sM_0 (by decide) rfl rfl gm_X12_stripOf ml_X12_327 rfl (Nat.le_of_ble_eq_true rfl) (JC.mono h ?_)
    clear h
    rintro M1 _ ⟨r1, rfl, h⟩
    refine jw_st (st' := [.int r1]) rfl ?_
    refine jw_istore (pc := 66) (ls' := [(5, .int r1), (0, .ref (x.2.2.2 0)), (1, .int l1), (2, .int l2), (3, .int l3), (4, .int l4)]) dX12_down_66 (by decide) rfl ?_
    refine jw_aload_n (pc := 68) (j := 1) dX12_down_68 rfl rfl ?_
    refine jw_aload_n (pc := 69) (j := 1) dX12_down_69 rfl rfl ?_
    refine jw_getR (pc := 70) (r := 5) dX12_down_70 sM_0 fl_X12_35 (by decide) rfl rfl ?_
    refine jw_bipush (pc := 73) (v := 78) dX12_down_73 rfl ?_
    refine jw_iload (pc := 75) (j := 5) dX12_down_75 rfl ?_
    refine jw_iadd (pc := 77) dX12_down_77 ?_
    refine jw_iald (pc := 78) (j := j1) dX12_down_78 sM_5 hj1 ej1 (by decide) ?_
    refine jw_iload (pc := 79) (j := 0) dX12_down_79 rfl ?_
    refine jw_callV (pc := 81) (m2 := mX12_seenFrom) (As := [.int (M1.1 5 j1), .int r1]) (st := []) dX12_down_81 sM_0 (by decide) rfl rfl gm_X12_seenFrom ml_X12_345 rfl (Nat.le_of_ble_eq_true rfl) (JC.mono h ?_)
    clear h
    rintro M2 _ ⟨r2, rfl, h⟩
    refine jw_st (st' := [.int r2]) rfl ?_
    refine jw_istore (pc := 84) (ls' := [(6, .int r2), (5, .int r1), (0, .ref (x.2.2.2 0)), (1, .int l1), (2, .int l2), (3, .int l3), (4, .int l4)]) dX12_down_84 (by decide) rfl ?_
    refine jw_aload_n (pc := 86) (j := 2) dX12_down_86 rfl rfl ?_
    refine jw_getR (pc := 87) (r := 5) dX12_down_87 sM_0 fl_X12_35 (by decide) rfl rfl ?_
    refine jw_sipush (pc := 90) (v := 144) dX12_down_90 rfl ?_
    refine jw_iload_n (pc := 93) (j := 3) dX12_down_93 rfl rfl ?_
    refine jw_iadd (pc := 94) dX12_down_94 ?_
    refine jw_iload_n (pc := 95) (j := 4) dX12_down_95 rfl rfl ?_
    refine jw_aload_n (pc := 96) (j := 2) dX12_down_96 rfl rfl ?_
    refine jw_getR (pc := 97) (r := 5) dX12_down_97 sM_0 fl_X12_35 (by decide) rfl rfl ?_
    refine jw_bipush (pc := 100) (v := 28) dX12_down_100 rfl ?_
    refine jw_iload_n (pc := 102) (j := 3) dX12_down_102 rfl rfl ?_
    refine jw_iadd (pc := 103) dX12_down_103 ?_
    obtain ⟨j2, hj2, ej2, h⟩ := h
    refine jw_iald (pc := 104) (j := j2) dX12_down_104 sM_5 hj2 ej2 (by decide) ?_
    refine jw_callS (pc := 105) (m2 := mJ9_min_7cf53) (As := [.int l2, .int (M2.1 5 j2)]) (st := [.int ((144 : Int32) + l1), .ref (x.2.2.2 5)]) dX12_down_105 gm_J9_min_7cf53 ml_X12_354 rfl (Nat.le_of_ble_eq_true rfl) (JC.mono h ?_)
    clear h
    rintro M3 _ ⟨r3, rfl, h⟩
    refine jw_st (st' := [.int r3, .int ((144 : Int32) + l1), .ref (x.2.2.2 5)]) rfl ?_
    obtain ⟨j3, hj3, ej3, h⟩ := h
    refine jw_iast (pc := 108) (j := j3) dX12_down_108 sM_5 hj3 ej3 (by decide) ?_
    replace h := h _ rfl
    generalize jrI M3 5 (upd (M3.1 5) j3 r3) = M4 at h ⊢
    refine jw_iload_n (pc := 109) (j := 5) dX12_down_109 rfl rfl ?_
    refine jw_aload_n (pc := 110) (j := 2) dX12_down_110 rfl rfl ?_
    refine jw_aload_n (pc := 111) (j := 2) dX12_down_111 rfl rfl ?_
    refine jw_getR (pc := 112) (r := 5) dX12_down_112 sM_0 fl_X12_35 (by decide) rfl rfl ?_
    refine jw_bipush (pc := 115) (v := 78) dX12_down_115 rfl ?_
    refine jw_iload (pc := 117) (j := 6) dX12_down_117 rfl ?_
    refine jw_iadd (pc := 119) dX12_down_119 ?_
    refine jw_iald (pc := 120) (j := j1) dX12_down_120 sM_5 hj1 ej1 (by decide) ?_
    refine jw_iload (pc := 121) (j := 1) dX12_down_121 rfl ?_
    refine jw_callV (pc := 123) (m2 := mX12_seenFrom) (As := [.int (M4.1 5 j1), .int r1]) (st := [.int l3]) dX12_down_123 sM_0 (by decide) rfl rfl gm_X12_seenFrom ml_X12_345 rfl (Nat.le_of_ble_eq_true rfl) (JC.mono h ?_)
    clear h
    rintro M5 _ ⟨r4, rfl, h⟩
    refine jw_st (st' := [.int r4, .int l3]) rfl ?_
    refine jw_iload (pc := 126) (j := 0) dX12_down_126 rfl ?_
    refine jw_icmp_ne (pc := 128) (tgt := 135) dX12_down_128 (by decide) (fun c => ?_) (fun c => ?_)
    · replace h := h.1 c
      refine jw_iconst (pc := 135) (v := 1) dX12_down_135 rfl ?_
      exact jw_sub [2, 3, 4, 6] rfl h
    · replace h := h.2 c
      refine jw_iconst (pc := 131) (v := 0) dX12_down_131 rfl ?_
      refine jw_goto (pc := 132) (tgt := 136) dX12_down_132 (by decide) ?_
      exact jw_sub [2, 3, 4, 6] rfl h
set_option maxRecDepth 20000 in
theorem b_X12_down_136 {x : jX} {d : Nat} {M : jM} {P : jM → Int32 → Prop} {l1 : Int32} {l2 : Int32} {l4 : Int32} {k0 : Int32} {k1 : Int32} 
    (h : ∃ j1, j1 < 2060 ∧ (144 : Int32) + l1 = nI j1 ∧ (∀ M1, M1 = jrI M 5 (upd (M.1 5) j1 l2) → JW x jtbM mX12_down (d + 1) (jI P) 40 [(0, .ref (x.2.2.2 0)), (1, .int l1), (2, .int l2), (3, .int (k1 + k0)), (4, .int (l4 + 1))] [] M1)) :
    JW x jtbM mX12_down (d + 1) (jI P) 136 [(0, .ref (x.2.2.2 0)), (1, .int l1), (2, .int l2), (4, .int l4)] [.int k0, .int k1] M := by
  refine jw_iadd (pc := 136) dX12_down_136 ?_
  refine jw_istore_n (pc := 137) (ls' := [(3, .int (k1 + k0)), (0, .ref (x.2.2.2 0)), (1, .int l1), (2, .int l2), (4, .int l4)]) dX12_down_137 rfl (by decide) rfl ?_
  refine jw_aload_n (pc := 138) (j := 1) dX12_down_138 rfl rfl ?_
  refine jw_getR (pc := 139) (r := 5) dX12_down_139 sM_0 fl_X12_35 (by decide) rfl rfl ?_
  refine jw_sipush (pc := 142) (v := 144) dX12_down_142 rfl ?_
  refine jw_iload_n (pc := 145) (j := 2) dX12_down_145 rfl rfl ?_
  refine jw_iadd (pc := 146) dX12_down_146 ?_
  refine jw_iload_n (pc := 147) (j := 3) dX12_down_147 rfl rfl ?_
  obtain ⟨j1, hj1, ej1, h⟩ := h
  refine jw_iast (pc := 148) (j := j1) dX12_down_148 sM_5 hj1 ej1 (by decide) ?_
  replace h := h _ rfl
  generalize jrI M 5 (upd (M.1 5) j1 l2) = M1 at h ⊢
  refine jw_iinc (pc := 149) (j := 4) (u := l4 + 1) (ls' := [(4, .int (l4 + 1)), (3, .int (k1 + k0)), (0, .ref (x.2.2.2 0)), (1, .int l1), (2, .int l2)]) dX12_down_149 rfl rfl (by decide) rfl ?_
  refine jw_goto (pc := 152) (tgt := 40) dX12_down_152 (by decide) ?_
  exact jw_sub [2, 3, 4, 1, 0] rfl h
set_option maxRecDepth 20000 in
theorem b_X12_askAsSeen {x : jX} {d : Nat} {M : jM} {P : jM → Prop}  
    (h : JW x jtbM mX12_askAsSeen (d + 1) (jV P) 2 [(0, .ref (x.2.2.2 0)), (1, .int (0 : Int32))] [] M) :
    JC x jtbM mX12_askAsSeen (d + 1) [.ref (x.2.2.2 0)] M (jV P) := by
  refine JC.of rfl (Nat.le_of_ble_eq_true rfl) ?_
  refine jw_ls (ls' := [(0, .ref (x.2.2.2 0))]) rfl ?_
  refine jw_iconst (pc := 0) (v := 0) dX12_askAsSeen_0 rfl ?_
  refine jw_istore_n (pc := 1) (ls' := [(1, .int (0 : Int32)), (0, .ref (x.2.2.2 0))]) dX12_askAsSeen_1 rfl (by decide) rfl ?_
  exact jw_sub [1, 0] rfl h
set_option maxRecDepth 20000 in
theorem b_X12_askAsSeen_2 {x : jX} {d : Nat} {M : jM} {P : jM → Prop} {l1 : Int32} 
    (h : ((M.1 5 2) ≤ l1 → P M) ∧ (¬ (M.1 5 2) ≤ l1 → ∃ j1, j1 < 6 ∧ l1 = nI j1 ∧ (∀ M1, M1 = jrI M 7 (upd (M.1 7) j1 (1 : Int32)) → JW x jtbM mX12_askAsSeen (d + 1) (jV P) 21 [(0, .ref (x.2.2.2 0)), (1, .int l1), (2, .int (0 : Int32))] [] M1))) :
    JW x jtbM mX12_askAsSeen (d + 1) (jV P) 2 [(0, .ref (x.2.2.2 0)), (1, .int l1)] [] M := by
  refine jw_iload_n (pc := 2) (j := 1) dX12_askAsSeen_2 rfl rfl ?_
  refine jw_aload_n (pc := 3) (j := 0) dX12_askAsSeen_3 rfl rfl ?_
  refine jw_getR (pc := 4) (r := 5) dX12_askAsSeen_4 sM_0 fl_X12_35 (by decide) rfl rfl ?_
  refine jw_iconst (pc := 7) (v := 2) dX12_askAsSeen_7 rfl ?_
  refine jw_iald (pc := 8) (j := 2) dX12_askAsSeen_8 sM_5 (by decide) rfl (by decide) ?_
  refine jw_icmp_ge (pc := 9) (tgt := 67) dX12_askAsSeen_9 (by decide) (fun c => ?_) (fun c => ?_)
  · replace h := h.1 c
    exact jw_vret (pc := 67) dX12_askAsSeen_67 rfl ⟨rfl, h⟩
  · replace h := h.2 c
    refine jw_aload_n (pc := 12) (j := 0) dX12_askAsSeen_12 rfl rfl ?_
    refine jw_getR (pc := 13) (r := 7) dX12_askAsSeen_13 sM_0 fl_X12_41 (by decide) rfl rfl ?_
    refine jw_iload_n (pc := 16) (j := 1) dX12_askAsSeen_16 rfl rfl ?_
    refine jw_iconst (pc := 17) (v := 1) dX12_askAsSeen_17 rfl ?_
    obtain ⟨j1, hj1, ej1, h⟩ := h
    refine jw_zast (pc := 18) (j := j1) dX12_askAsSeen_18 sM_7 hj1 ej1 (by decide) (Or.inr rfl) ?_
    replace h := h _ rfl
    generalize jrI M 7 (upd (M.1 7) j1 (1 : Int32)) = M1 at h ⊢
    refine jw_iconst (pc := 19) (v := 0) dX12_askAsSeen_19 rfl ?_
    refine jw_istore_n (pc := 20) (ls' := [(2, .int (0 : Int32)), (0, .ref (x.2.2.2 0)), (1, .int l1)]) dX12_askAsSeen_20 rfl (by decide) rfl ?_
    exact jw_sub [1, 2, 0] rfl h
set_option maxRecDepth 20000 in
theorem b_X12_askAsSeen_21 {x : jX} {d : Nat} {M : jM} {P : jM → Prop} {l1 : Int32} {l2 : Int32} 
    (h : JC x jtbM mX12_strips d [.ref (x.2.2.2 0), .int l1] M (jI fun M1 r1 => (r1 ≤ l2 → JW x jtbM mX12_askAsSeen (d + 1) (jV P) 2 [(0, .ref (x.2.2.2 0)), (1, .int (l1 + 1))] [] M1) ∧ (¬ r1 ≤ l2 → ∃ j1, j1 < 2060 ∧ (78 : Int32) + l1 = nI j1 ∧ (JC x jtbM mX12_seenFrom d [.ref (x.2.2.2 0), .int (M1.1 5 j1), .int l2] M1 (jI fun M2 r2 => ∃ j2, j2 < 54 ∧ ((9 : Int32) * l1) + l2 = nI j2 ∧ (∀ M3, M3 = jrI M2 8 (upd (M2.1 8) j2 r2) → JW x jtbM mX12_askAsSeen (d + 1) (jV P) 21 [(0, .ref (x.2.2.2 0)), (1, .int l1), (2, .int (l2 + 1))] [] M3)))))) :
    JW x jtbM mX12_askAsSeen (d + 1) (jV P) 21 [(0, .ref (x.2.2.2 0)), (1, .int l1), (2, .int l2)] [] M := by
  refine jw_iload_n (pc := 21) (j := 2) dX12_askAsSeen_21 rfl rfl ?_
  refine jw_aload_n (pc := 22) (j := 0) dX12_askAsSeen_22 rfl rfl ?_
  refine jw_iload_n (pc := 23) (j := 1) dX12_askAsSeen_23 rfl rfl ?_
  refine jw_callV (pc := 24) (m2 := mX12_strips) (As := [.int l1]) (st := [.int l2]) dX12_askAsSeen_24 sM_0 (by decide) rfl rfl gm_X12_strips ml_X12_311 rfl (Nat.le_of_ble_eq_true rfl) (JC.mono h ?_)
  clear h
  rintro M1 _ ⟨r1, rfl, h⟩
  refine jw_st (st' := [.int r1, .int l2]) rfl ?_
  refine jw_icmp_ge (pc := 27) (tgt := 61) dX12_askAsSeen_27 (by decide) (fun c => ?_) (fun c => ?_)
  · replace h := h.1 c
    refine jw_iinc (pc := 61) (j := 1) (u := l1 + 1) (ls' := [(1, .int (l1 + 1)), (0, .ref (x.2.2.2 0)), (2, .int l2)]) dX12_askAsSeen_61 rfl rfl (by decide) rfl ?_
    refine jw_goto (pc := 64) (tgt := 2) dX12_askAsSeen_64 (by decide) ?_
    exact jw_sub [1, 0] rfl h
  · replace h := h.2 c
    refine jw_aload_n (pc := 30) (j := 0) dX12_askAsSeen_30 rfl rfl ?_
    refine jw_getR (pc := 31) (r := 8) dX12_askAsSeen_31 sM_0 fl_X12_45 (by decide) rfl rfl ?_
    refine jw_bipush (pc := 34) (v := 9) dX12_askAsSeen_34 rfl ?_
    refine jw_iload_n (pc := 36) (j := 1) dX12_askAsSeen_36 rfl rfl ?_
    refine jw_imul (pc := 37) dX12_askAsSeen_37 ?_
    refine jw_iload_n (pc := 38) (j := 2) dX12_askAsSeen_38 rfl rfl ?_
    refine jw_iadd (pc := 39) dX12_askAsSeen_39 ?_
    refine jw_aload_n (pc := 40) (j := 0) dX12_askAsSeen_40 rfl rfl ?_
    refine jw_aload_n (pc := 41) (j := 0) dX12_askAsSeen_41 rfl rfl ?_
    refine jw_getR (pc := 42) (r := 5) dX12_askAsSeen_42 sM_0 fl_X12_35 (by decide) rfl rfl ?_
    refine jw_bipush (pc := 45) (v := 78) dX12_askAsSeen_45 rfl ?_
    refine jw_iload_n (pc := 47) (j := 1) dX12_askAsSeen_47 rfl rfl ?_
    refine jw_iadd (pc := 48) dX12_askAsSeen_48 ?_
    obtain ⟨j1, hj1, ej1, h⟩ := h
    refine jw_iald (pc := 49) (j := j1) dX12_askAsSeen_49 sM_5 hj1 ej1 (by decide) ?_
    refine jw_iload_n (pc := 50) (j := 2) dX12_askAsSeen_50 rfl rfl ?_
    refine jw_callV (pc := 51) (m2 := mX12_seenFrom) (As := [.int (M1.1 5 j1), .int l2]) (st := [.int (((9 : Int32) * l1) + l2), .ref (x.2.2.2 8)]) dX12_askAsSeen_51 sM_0 (by decide) rfl rfl gm_X12_seenFrom ml_X12_345 rfl (Nat.le_of_ble_eq_true rfl) (JC.mono h ?_)
    clear h
    rintro M2 _ ⟨r2, rfl, h⟩
    refine jw_st (st' := [.int r2, .int (((9 : Int32) * l1) + l2), .ref (x.2.2.2 8)]) rfl ?_
    obtain ⟨j2, hj2, ej2, h⟩ := h
    refine jw_iast (pc := 54) (j := j2) dX12_askAsSeen_54 sM_8 hj2 ej2 (by decide) ?_
    replace h := h _ rfl
    generalize jrI M2 8 (upd (M2.1 8) j2 r2) = M3 at h ⊢
    refine jw_iinc (pc := 55) (j := 2) (u := l2 + 1) (ls' := [(2, .int (l2 + 1)), (0, .ref (x.2.2.2 0)), (1, .int l1)]) dX12_askAsSeen_55 rfl rfl (by decide) rfl ?_
    refine jw_goto (pc := 58) (tgt := 21) dX12_askAsSeen_58 (by decide) ?_
    exact jw_sub [1, 2, 0] rfl h
