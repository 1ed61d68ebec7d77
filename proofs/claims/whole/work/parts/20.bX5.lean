set_option maxRecDepth 20000 in
theorem b_X5_begin {x : jX} {tb : jT} {d : Nat} {M : jM} {P : jM → Prop} {p : Nat} {a1 : Int32} {a2 : Int32} (a0 : aX5 tb p)
    (h : ∀ M1, M1 = jrI M p (upd (M.1 p) 0 a1) → ∀ M2, M2 = jrI M1 p (upd (M1.1 p) 1 a2) → ∀ M3, M3 = jrI M2 p (upd (M2.1 p) 2 ((M2.1 p 0) * (M2.1 p 1))) → ∀ M4, M4 = jrI M3 p (upd (M3.1 p) 3 (0 : Int32)) → ∀ M5, M5 = jrI M4 p (upd (M4.1 p) 4 (0 : Int32)) → JC x tb mJ7_fill_53178 d [.ref (x.2.2.2 (p + 1)), .int (99 : Int32)] M5 (jV fun M6 => JC x tb mJ7_fill_53178 d [.ref (x.2.2.2 (p + 2)), .int (0 : Int32)] M6 (jV fun M7 => JC x tb mJ7_fill_53178 d [.ref (x.2.2.2 (p + 3)), .int (1 : Int32)] M7 (jV fun M8 => JW x tb mX5_begin (d + 1) (jV P) 60 [(0, .ref (x.2.2.2 p)), (3, .int (0 : Int32))] [] M8)))) :
    JC x tb mX5_begin (d + 1) [.ref (x.2.2.2 p), .int a1, .int a2] M (jV P) := by
  refine JC.of rfl (Nat.le_of_ble_eq_true rfl) ?_
  refine jw_ls (ls' := [(0, .ref (x.2.2.2 p)), (1, .int a1), (2, .int a2)]) rfl ?_
  refine jw_aload_n (pc := 0) (j := 0) dX5_begin_0 rfl rfl ?_
  refine jw_iload_n (pc := 1) (j := 1) dX5_begin_1 rfl rfl ?_
  refine jw_putI (pc := 2) dX5_begin_2 a0.1 fl_X5_37 fw_5_0 (by decide) rfl ?_
  replace h := h _ rfl
  generalize jrI M p (upd (M.1 p) 0 a1) = M1 at h ⊢
  refine jw_aload_n (pc := 5) (j := 0) dX5_begin_5 rfl rfl ?_
  refine jw_iload_n (pc := 6) (j := 2) dX5_begin_6 rfl rfl ?_
  refine jw_putI (pc := 7) dX5_begin_7 a0.1 fl_X5_41 fw_5_1 (by decide) rfl ?_
  replace h := h _ rfl
  generalize jrI M1 p (upd (M1.1 p) 1 a2) = M2 at h ⊢
  refine jw_aload_n (pc := 10) (j := 0) dX5_begin_10 rfl rfl ?_
  refine jw_aload_n (pc := 11) (j := 0) dX5_begin_11 rfl rfl ?_
  refine jw_getI (pc := 12) dX5_begin_12 a0.1 fl_X5_37 (by decide) rfl ?_
  refine jw_aload_n (pc := 15) (j := 0) dX5_begin_15 rfl rfl ?_
  refine jw_getI (pc := 16) dX5_begin_16 a0.1 fl_X5_41 (by decide) rfl ?_
  refine jw_imul (pc := 19) dX5_begin_19 ?_
  refine jw_putI (pc := 20) dX5_begin_20 a0.1 fl_X5_44 fw_5_2 (by decide) rfl ?_
  replace h := h _ rfl
  generalize jrI M2 p (upd (M2.1 p) 2 ((M2.1 p 0) * (M2.1 p 1))) = M3 at h ⊢
  refine jw_aload_n (pc := 23) (j := 0) dX5_begin_23 rfl rfl ?_
  refine jw_iconst (pc := 24) (v := 0) dX5_begin_24 rfl ?_
  refine jw_putI (pc := 25) dX5_begin_25 a0.1 fl_X5_47 fw_5_3 (by decide) rfl ?_
  replace h := h _ rfl
  generalize jrI M3 p (upd (M3.1 p) 3 (0 : Int32)) = M4 at h ⊢
  refine jw_aload_n (pc := 28) (j := 0) dX5_begin_28 rfl rfl ?_
  refine jw_iconst (pc := 29) (v := 0) dX5_begin_29 rfl ?_
  refine jw_putI (pc := 30) dX5_begin_30 a0.1 fl_X5_50 fw_5_4 (by decide) rfl ?_
  replace h := h _ rfl
  generalize jrI M4 p (upd (M4.1 p) 4 (0 : Int32)) = M5 at h ⊢
  refine jw_aload_n (pc := 33) (j := 0) dX5_begin_33 rfl rfl ?_
  refine jw_getR (pc := 34) (r := p + 1) dX5_begin_34 a0.1 fl_X5_9 (by decide) rfl rfl ?_
  refine jw_bipush (pc := 37) (v := 99) dX5_begin_37 rfl ?_
  refine jw_callS (pc := 39) (m2 := mJ7_fill_53178) (As := [.ref (x.2.2.2 (p + 1)), .int (99 : Int32)]) (st := []) dX5_begin_39 gm_J7_fill_53178 ml_X5_53 rfl (Nat.le_of_ble_eq_true rfl) (JC.mono h ?_)
  clear h
  rintro M6 _ ⟨rfl, h⟩
  refine jw_st (st' := []) rfl ?_
  refine jw_aload_n (pc := 42) (j := 0) dX5_begin_42 rfl rfl ?_
  refine jw_getR (pc := 43) (r := p + 2) dX5_begin_43 a0.1 fl_X5_15 (by decide) rfl rfl ?_
  refine jw_iconst (pc := 46) (v := 0) dX5_begin_46 rfl ?_
  refine jw_callS (pc := 47) (m2 := mJ7_fill_53178) (As := [.ref (x.2.2.2 (p + 2)), .int (0 : Int32)]) (st := []) dX5_begin_47 gm_J7_fill_53178 ml_X5_53 rfl (Nat.le_of_ble_eq_true rfl) (JC.mono h ?_)
  clear h
  rintro M7 _ ⟨rfl, h⟩
  refine jw_st (st' := []) rfl ?_
  refine jw_aload_n (pc := 50) (j := 0) dX5_begin_50 rfl rfl ?_
  refine jw_getR (pc := 51) (r := p + 3) dX5_begin_51 a0.1 fl_X5_18 (by decide) rfl rfl ?_
  refine jw_iconst (pc := 54) (v := 1) dX5_begin_54 rfl ?_
  refine jw_callS (pc := 55) (m2 := mJ7_fill_53178) (As := [.ref (x.2.2.2 (p + 3)), .int (1 : Int32)]) (st := []) dX5_begin_55 gm_J7_fill_53178 ml_X5_53 rfl (Nat.le_of_ble_eq_true rfl) (JC.mono h ?_)
  clear h
  rintro M8 _ ⟨rfl, h⟩
  refine jw_st (st' := []) rfl ?_
  refine jw_iconst (pc := 58) (v := 0) dX5_begin_58 rfl ?_
  refine jw_istore_n (pc := 59) (ls' := [(3, .int (0 : Int32)), (0, .ref (x.2.2.2 p)), (1, .int a1), (2, .int a2)]) dX5_begin_59 rfl (by decide) rfl ?_
  exact jw_sub [1, 0] rfl h
set_option maxRecDepth 20000 in
theorem b_X5_begin_60 {x : jX} {tb : jT} {d : Nat} {M : jM} {P : jM → Prop} {p : Nat} {l3 : Int32} (a0 : aX5 tb p)
    (h : ((M.1 p 1) ≤ l3 → P M) ∧ (¬ (M.1 p 1) ≤ l3 → JW x tb mX5_begin (d + 1) (jV P) 71 [(0, .ref (x.2.2.2 p)), (3, .int l3), (4, .int (0 : Int32))] [] M)) :
    JW x tb mX5_begin (d + 1) (jV P) 60 [(0, .ref (x.2.2.2 p)), (3, .int l3)] [] M := by
  refine jw_iload_n (pc := 60) (j := 1) dX5_begin_60 rfl rfl ?_
  refine jw_aload_n (pc := 61) (j := 0) dX5_begin_61 rfl rfl ?_
  refine jw_getI (pc := 62) dX5_begin_62 a0.1 fl_X5_41 (by decide) rfl ?_
  refine jw_icmp_ge (pc := 65) (tgt := 137) dX5_begin_65 (by decide) (fun c => ?_) (fun c => ?_)
  · replace h := h.1 c
    exact jw_vret (pc := 137) dX5_begin_137 rfl ⟨rfl, h⟩
  · replace h := h.2 c
    refine jw_iconst (pc := 68) (v := 0) dX5_begin_68 rfl ?_
    refine jw_istore (pc := 69) (ls' := [(4, .int (0 : Int32)), (0, .ref (x.2.2.2 p)), (3, .int l3)]) dX5_begin_69 (by decide) rfl ?_
    exact jw_sub [1, 2, 0] rfl h
set_option maxRecDepth 20000 in
theorem b_X5_begin_71 {x : jX} {tb : jT} {d : Nat} {M : jM} {P : jM → Prop} {p : Nat} {l3 : Int32} {l4 : Int32} (a0 : aX5 tb p)
    (h : ((M.1 p 0) ≤ l4 → JW x tb mX5_begin (d + 1) (jV P) 60 [(0, .ref (x.2.2.2 p)), (3, .int (l3 + 1))] [] M) ∧ (¬ (M.1 p 0) ≤ l4 → JW x tb mX5_begin (d + 1) (jV P) 83 [(0, .ref (x.2.2.2 p)), (3, .int l3), (4, .int l4), (5, .int (0 : Int32))] [] M)) :
    JW x tb mX5_begin (d + 1) (jV P) 71 [(0, .ref (x.2.2.2 p)), (3, .int l3), (4, .int l4)] [] M := by
  refine jw_iload (pc := 71) (j := 2) dX5_begin_71 rfl ?_
  refine jw_aload_n (pc := 73) (j := 0) dX5_begin_73 rfl rfl ?_
  refine jw_getI (pc := 74) dX5_begin_74 a0.1 fl_X5_37 (by decide) rfl ?_
  refine jw_icmp_ge (pc := 77) (tgt := 131) dX5_begin_77 (by decide) (fun c => ?_) (fun c => ?_)
  · replace h := h.1 c
    refine jw_iinc (pc := 131) (j := 1) (u := l3 + 1) (ls' := [(3, .int (l3 + 1)), (0, .ref (x.2.2.2 p)), (4, .int l4)]) dX5_begin_131 rfl rfl (by decide) rfl ?_
    refine jw_goto (pc := 134) (tgt := 60) dX5_begin_134 (by decide) ?_
    exact jw_sub [1, 0] rfl h
  · replace h := h.2 c
    refine jw_iconst (pc := 80) (v := 0) dX5_begin_80 rfl ?_
    refine jw_istore (pc := 81) (ls' := [(5, .int (0 : Int32)), (0, .ref (x.2.2.2 p)), (3, .int l3), (4, .int l4)]) dX5_begin_81 (by decide) rfl ?_
    exact jw_sub [1, 2, 3, 0] rfl h
set_option maxRecDepth 20000 in
theorem b_X5_begin_83 {x : jX} {tb : jT} {d : Nat} {M : jM} {P : jM → Prop} {p : Nat} {l3 : Int32} {l4 : Int32} {l5 : Int32} (a0 : aX5 tb p)
    (h : ((8 : Int32) ≤ l5 → JW x tb mX5_begin (d + 1) (jV P) 71 [(0, .ref (x.2.2.2 p)), (3, .int l3), (4, .int (l4 + 1))] [] M) ∧ (¬ (8 : Int32) ≤ l5 → JC x tb mX5_stripOf d [.ref (x.2.2.2 p), .int l5, .int l4, .int l3] M (jI fun M1 r1 => ∃ j1, j1 < 200 ∧ ((l5 * (25 : Int32)) + (l3 * (M.1 p 0))) + l4 = nI j1 ∧ (∀ M2, M2 = jrI M1 (p + 7) (upd (M1.1 (p + 7)) j1 r1) → JW x tb mX5_begin (d + 1) (jV P) 83 [(0, .ref (x.2.2.2 p)), (3, .int l3), (4, .int l4), (5, .int (l5 + 1))] [] M2)))) :
    JW x tb mX5_begin (d + 1) (jV P) 83 [(0, .ref (x.2.2.2 p)), (3, .int l3), (4, .int l4), (5, .int l5)] [] M := by
  refine jw_iload (pc := 83) (j := 3) dX5_begin_83 rfl ?_
  refine jw_bipush (pc := 85) (v := 8) dX5_begin_85 rfl ?_
  refine jw_icmp_ge (pc := 87) (tgt := 125) dX5_begin_87 (by decide) (fun c => ?_) (fun c => ?_)
  · replace h := h.1 c
    refine jw_iinc (pc := 125) (j := 2) (u := l4 + 1) (ls' := [(4, .int (l4 + 1)), (0, .ref (x.2.2.2 p)), (3, .int l3), (5, .int l5)]) dX5_begin_125 rfl rfl (by decide) rfl ?_
    refine jw_goto (pc := 128) (tgt := 71) dX5_begin_128 (by decide) ?_
    exact jw_sub [1, 2, 0] rfl h
  · replace h := h.2 c
    refine jw_aload_n (pc := 90) (j := 0) dX5_begin_90 rfl rfl ?_
    refine jw_getR (pc := 91) (r := p + 7) dX5_begin_91 a0.1 fl_X5_31 (by decide) rfl rfl ?_
    refine jw_iload (pc := 94) (j := 3) dX5_begin_94 rfl ?_
    refine jw_bipush (pc := 96) (v := 25) dX5_begin_96 rfl ?_
    refine jw_imul (pc := 98) dX5_begin_98 ?_
    refine jw_iload_n (pc := 99) (j := 1) dX5_begin_99 rfl rfl ?_
    refine jw_aload_n (pc := 100) (j := 0) dX5_begin_100 rfl rfl ?_
    refine jw_getI (pc := 101) dX5_begin_101 a0.1 fl_X5_37 (by decide) rfl ?_
    refine jw_imul (pc := 104) dX5_begin_104 ?_
    refine jw_iadd (pc := 105) dX5_begin_105 ?_
    refine jw_iload (pc := 106) (j := 2) dX5_begin_106 rfl ?_
    refine jw_iadd (pc := 108) dX5_begin_108 ?_
    refine jw_aload_n (pc := 109) (j := 0) dX5_begin_109 rfl rfl ?_
    refine jw_iload (pc := 110) (j := 3) dX5_begin_110 rfl ?_
    refine jw_iload (pc := 112) (j := 2) dX5_begin_112 rfl ?_
    refine jw_iload_n (pc := 114) (j := 1) dX5_begin_114 rfl rfl ?_
    refine jw_callV (pc := 115) (m2 := mX5_stripOf) (As := [.int l5, .int l4, .int l3]) (st := [.int (((l5 * (25 : Int32)) + (l3 * (M.1 p 0))) + l4), .ref (x.2.2.2 (p + 7))]) dX5_begin_115 a0.1 (by decide) rfl rfl gm_X5_stripOf ml_X5_59 rfl (Nat.le_of_ble_eq_true rfl) (JC.mono h ?_)
    clear h
    rintro M1 _ ⟨r1, rfl, h⟩
    refine jw_st (st' := [.int r1, .int (((l5 * (25 : Int32)) + (l3 * (M.1 p 0))) + l4), .ref (x.2.2.2 (p + 7))]) rfl ?_
    obtain ⟨j1, hj1, ej1, h⟩ := h
    refine jw_iast (pc := 118) (j := j1) dX5_begin_118 a0.2.2.2.2.2.2.2.1 hj1 ej1 (by decide) ?_
    replace h := h _ rfl
    generalize jrI M1 (p + 7) (upd (M1.1 (p + 7)) j1 r1) = M2 at h ⊢
    refine jw_iinc (pc := 119) (j := 3) (u := l5 + 1) (ls' := [(5, .int (l5 + 1)), (0, .ref (x.2.2.2 p)), (3, .int l3), (4, .int l4)]) dX5_begin_119 rfl rfl (by decide) rfl ?_
    refine jw_goto (pc := 122) (tgt := 83) dX5_begin_122 (by decide) ?_
    exact jw_sub [1, 2, 3, 0] rfl h
set_option maxRecDepth 20000 in
theorem b_X5_stripOf {x : jX} {tb : jT} {d : Nat} {M : jM} {P : jM → Int32 → Prop} {p : Nat} {a1 : Int32} {a2 : Int32} {a3 : Int32} (a0 : aX5 tb p)
    (h : (a1 = 0 → P M (((M.1 p 0) - (1 : Int32)) - a2)) ∧ (¬ a1 = 0 → (a1 = 1 → P M (((((M.1 p 0) + (M.1 p 1)) - (2 : Int32)) - a2) - a3)) ∧ (¬ a1 = 1 → (a1 = 2 → P M (((M.1 p 1) - (1 : Int32)) - a3)) ∧ (¬ a1 = 2 → (a1 = 3 → P M ((((M.1 p 1) - (1 : Int32)) + a2) - a3)) ∧ (¬ a1 = 3 → (a1 = 4 → P M a2) ∧ (¬ a1 = 4 → (a1 = 5 → P M (a2 + a3)) ∧ (¬ a1 = 5 → (a1 = 6 → P M a3) ∧ (¬ a1 = 6 → P M ((((M.1 p 0) - (1 : Int32)) - a2) + a3))))))))) :
    JC x tb mX5_stripOf d [.ref (x.2.2.2 p), .int a1, .int a2, .int a3] M (jI P) := by
  refine JC.of rfl (Nat.le_of_ble_eq_true rfl) ?_
  refine jw_ls (ls' := [(0, .ref (x.2.2.2 p)), (1, .int a1), (2, .int a2), (3, .int a3)]) rfl ?_
  refine jw_iload_n (pc := 0) (j := 1) dX5_stripOf_0 rfl rfl ?_
  refine (Decidable.em (a1 = 0)).elim (fun c0 => ?_) (fun c0 => ?_)
  · replace h := h.1 c0
    refine jw_tableIn (pc := 1) (tgt := 44) dX5_stripOf_1 (by rw [c0]; decide) (by rw [c0]; decide) (by rw [c0]; rfl) (by decide) ?_
    refine jw_aload_n (pc := 44) (j := 0) dX5_stripOf_44 rfl rfl ?_
    refine jw_getI (pc := 45) dX5_stripOf_45 a0.1 fl_X5_37 (by decide) rfl ?_
    refine jw_iconst (pc := 48) (v := 1) dX5_stripOf_48 rfl ?_
    refine jw_isub (pc := 49) dX5_stripOf_49 ?_
    refine jw_iload_n (pc := 50) (j := 2) dX5_stripOf_50 rfl rfl ?_
    refine jw_isub (pc := 51) dX5_stripOf_51 ?_
    exact jw_iret (pc := 52) dX5_stripOf_52 rfl ⟨_, rfl, h⟩
  · replace h := h.2 c0
    refine (Decidable.em (a1 = 1)).elim (fun c1 => ?_) (fun c1 => ?_)
    · replace h := h.1 c1
      refine jw_tableIn (pc := 1) (tgt := 53) dX5_stripOf_1 (by rw [c1]; decide) (by rw [c1]; decide) (by rw [c1]; rfl) (by decide) ?_
      refine jw_aload_n (pc := 53) (j := 0) dX5_stripOf_53 rfl rfl ?_
      refine jw_getI (pc := 54) dX5_stripOf_54 a0.1 fl_X5_37 (by decide) rfl ?_
      refine jw_aload_n (pc := 57) (j := 0) dX5_stripOf_57 rfl rfl ?_
      refine jw_getI (pc := 58) dX5_stripOf_58 a0.1 fl_X5_41 (by decide) rfl ?_
      refine jw_iadd (pc := 61) dX5_stripOf_61 ?_
      refine jw_iconst (pc := 62) (v := 2) dX5_stripOf_62 rfl ?_
      refine jw_isub (pc := 63) dX5_stripOf_63 ?_
      refine jw_iload_n (pc := 64) (j := 2) dX5_stripOf_64 rfl rfl ?_
      refine jw_isub (pc := 65) dX5_stripOf_65 ?_
      refine jw_iload_n (pc := 66) (j := 3) dX5_stripOf_66 rfl rfl ?_
      refine jw_isub (pc := 67) dX5_stripOf_67 ?_
      exact jw_iret (pc := 68) dX5_stripOf_68 rfl ⟨_, rfl, h⟩
    · replace h := h.2 c1
      refine (Decidable.em (a1 = 2)).elim (fun c2 => ?_) (fun c2 => ?_)
      · replace h := h.1 c2
        refine jw_tableIn (pc := 1) (tgt := 69) dX5_stripOf_1 (by rw [c2]; decide) (by rw [c2]; decide) (by rw [c2]; rfl) (by decide) ?_
        refine jw_aload_n (pc := 69) (j := 0) dX5_stripOf_69 rfl rfl ?_
        refine jw_getI (pc := 70) dX5_stripOf_70 a0.1 fl_X5_41 (by decide) rfl ?_
        refine jw_iconst (pc := 73) (v := 1) dX5_stripOf_73 rfl ?_
        refine jw_isub (pc := 74) dX5_stripOf_74 ?_
        refine jw_iload_n (pc := 75) (j := 3) dX5_stripOf_75 rfl rfl ?_
        refine jw_isub (pc := 76) dX5_stripOf_76 ?_
        exact jw_iret (pc := 77) dX5_stripOf_77 rfl ⟨_, rfl, h⟩
      · replace h := h.2 c2
        refine (Decidable.em (a1 = 3)).elim (fun c3 => ?_) (fun c3 => ?_)
        · replace h := h.1 c3
          refine jw_tableIn (pc := 1) (tgt := 78) dX5_stripOf_1 (by rw [c3]; decide) (by rw [c3]; decide) (by rw [c3]; rfl) (by decide) ?_
          refine jw_aload_n (pc := 78) (j := 0) dX5_stripOf_78 rfl rfl ?_
          refine jw_getI (pc := 79) dX5_stripOf_79 a0.1 fl_X5_41 (by decide) rfl ?_
          refine jw_iconst (pc := 82) (v := 1) dX5_stripOf_82 rfl ?_
          refine jw_isub (pc := 83) dX5_stripOf_83 ?_
          refine jw_iload_n (pc := 84) (j := 2) dX5_stripOf_84 rfl rfl ?_
          refine jw_iadd (pc := 85) dX5_stripOf_85 ?_
          refine jw_iload_n (pc := 86) (j := 3) dX5_stripOf_86 rfl rfl ?_
          refine jw_isub (pc := 87) dX5_stripOf_87 ?_
          exact jw_iret (pc := 88) dX5_stripOf_88 rfl ⟨_, rfl, h⟩
        · replace h := h.2 c3
          refine (Decidable.em (a1 = 4)).elim (fun c4 => ?_) (fun c4 => ?_)
          · replace h := h.1 c4
            refine jw_tableIn (pc := 1) (tgt := 89) dX5_stripOf_1 (by rw [c4]; decide) (by rw [c4]; decide) (by rw [c4]; rfl) (by decide) ?_
            refine jw_iload_n (pc := 89) (j := 2) dX5_stripOf_89 rfl rfl ?_
            exact jw_iret (pc := 90) dX5_stripOf_90 rfl ⟨_, rfl, h⟩
          · replace h := h.2 c4
            refine (Decidable.em (a1 = 5)).elim (fun c5 => ?_) (fun c5 => ?_)
            · replace h := h.1 c5
              refine jw_tableIn (pc := 1) (tgt := 91) dX5_stripOf_1 (by rw [c5]; decide) (by rw [c5]; decide) (by rw [c5]; rfl) (by decide) ?_
              refine jw_iload_n (pc := 91) (j := 2) dX5_stripOf_91 rfl rfl ?_
              refine jw_iload_n (pc := 92) (j := 3) dX5_stripOf_92 rfl rfl ?_
              refine jw_iadd (pc := 93) dX5_stripOf_93 ?_
              exact jw_iret (pc := 94) dX5_stripOf_94 rfl ⟨_, rfl, h⟩
            · replace h := h.2 c5
              refine (Decidable.em (a1 = 6)).elim (fun c6 => ?_) (fun c6 => ?_)
              · replace h := h.1 c6
                refine jw_tableIn (pc := 1) (tgt := 95) dX5_stripOf_1 (by rw [c6]; decide) (by rw [c6]; decide) (by rw [c6]; rfl) (by decide) ?_
                refine jw_iload_n (pc := 95) (j := 3) dX5_stripOf_95 rfl rfl ?_
                exact jw_iret (pc := 96) dX5_stripOf_96 rfl ⟨_, rfl, h⟩
              · replace h := h.2 c6
                have e0 := jne_i (k := 0) (n := 0) c0 (by decide)
                have e1 := jne_i (k := 1) (n := 1) c1 (by decide)
                have e2 := jne_i (k := 2) (n := 2) c2 (by decide)
                have e3 := jne_i (k := 3) (n := 3) c3 (by decide)
                have e4 := jne_i (k := 4) (n := 4) c4 (by decide)
                have e5 := jne_i (k := 5) (n := 5) c5 (by decide)
                have e6 := jne_i (k := 6) (n := 6) c6 (by decide)
                refine jw_tableOut (pc := 1) (tgt := 97) dX5_stripOf_1 (by omega) (by decide) ?_
                refine jw_aload_n (pc := 97) (j := 0) dX5_stripOf_97 rfl rfl ?_
                refine jw_getI (pc := 98) dX5_stripOf_98 a0.1 fl_X5_37 (by decide) rfl ?_
                refine jw_iconst (pc := 101) (v := 1) dX5_stripOf_101 rfl ?_
                refine jw_isub (pc := 102) dX5_stripOf_102 ?_
                refine jw_iload_n (pc := 103) (j := 2) dX5_stripOf_103 rfl rfl ?_
                refine jw_isub (pc := 104) dX5_stripOf_104 ?_
                refine jw_iload_n (pc := 105) (j := 3) dX5_stripOf_105 rfl rfl ?_
                refine jw_iadd (pc := 106) dX5_stripOf_106 ?_
                exact jw_iret (pc := 107) dX5_stripOf_107 rfl ⟨_, rfl, h⟩
set_option maxRecDepth 20000 in
theorem b_X5_copyFrom {x : jX} {tb : jT} {d : Nat} {M : jM} {P : jM → Prop} {p : Nat} {o1 : Nat} (a0 : aX5 tb p) (b1 : aX5 tb o1)
    (h : ∀ M1, M1 = jrI M p (upd (M.1 p) 0 (M.1 o1 0)) → ∀ M2, M2 = jrI M1 p (upd (M1.1 p) 1 (M1.1 o1 1)) → ∀ M3, M3 = jrI M2 p (upd (M2.1 p) 2 (M2.1 o1 2)) → ∀ M4, M4 = jrI M3 p (upd (M3.1 p) 3 (M3.1 o1 3)) → ∀ M5, M5 = jrI M4 p (upd (M4.1 p) 4 (M4.1 o1 4)) → 0 + 25 ≤ 25 ∧ 0 + 25 ≤ 25 ∧ (∀ M6, M6 = jrI M5 (p + 1) (va_cpy (M5.1 (o1 + 1)) (M5.1 (p + 1)) 0 0 25) → 0 + 25 ≤ 25 ∧ 0 + 25 ≤ 25 ∧ (∀ M7, M7 = jrI M6 (p + 2) (va_cpy (M6.1 (o1 + 2)) (M6.1 (p + 2)) 0 0 25) → 0 + 25 ≤ 25 ∧ 0 + 25 ≤ 25 ∧ (∀ M8, M8 = jrI M7 (p + 3) (va_cpy (M7.1 (o1 + 3)) (M7.1 (p + 3)) 0 0 25) → 0 + 6 ≤ 6 ∧ 0 + 6 ≤ 6 ∧ (∀ M9, M9 = jrL M8 (p + 4) (va_cpy (M8.2 (o1 + 4)) (M8.2 (p + 4)) 0 0 6) → 0 + 6 ≤ 6 ∧ 0 + 6 ≤ 6 ∧ (∀ M10, M10 = jrI M9 (p + 5) (va_cpy (M9.1 (o1 + 5)) (M9.1 (p + 5)) 0 0 6) → 0 + 54 ≤ 54 ∧ 0 + 54 ≤ 54 ∧ (∀ M11, M11 = jrI M10 (p + 6) (va_cpy (M10.1 (o1 + 6)) (M10.1 (p + 6)) 0 0 54) → 0 + 200 ≤ 200 ∧ 0 + 200 ≤ 200 ∧ (∀ M12, M12 = jrI M11 (p + 7) (va_cpy (M11.1 (o1 + 7)) (M11.1 (p + 7)) 0 0 200) → P M12)))))))) :
    JC x tb mX5_copyFrom (d + 1) [.ref (x.2.2.2 p), .ref (x.2.2.2 o1)] M (jV P) := by
  refine JC.of rfl (Nat.le_of_ble_eq_true rfl) ?_
  refine jw_ls (ls' := [(0, .ref (x.2.2.2 p)), (1, .ref (x.2.2.2 o1))]) rfl ?_
  refine jw_aload_n (pc := 0) (j := 0) dX5_copyFrom_0 rfl rfl ?_
  refine jw_aload_n (pc := 1) (j := 1) dX5_copyFrom_1 rfl rfl ?_
  refine jw_getI (pc := 2) dX5_copyFrom_2 b1.1 fl_X5_37 (by decide) rfl ?_
  refine jw_putI (pc := 5) dX5_copyFrom_5 a0.1 fl_X5_37 fw_5_0 (by decide) rfl ?_
  replace h := h _ rfl
  generalize jrI M p (upd (M.1 p) 0 (M.1 o1 0)) = M1 at h ⊢
  refine jw_aload_n (pc := 8) (j := 0) dX5_copyFrom_8 rfl rfl ?_
  refine jw_aload_n (pc := 9) (j := 1) dX5_copyFrom_9 rfl rfl ?_
  refine jw_getI (pc := 10) dX5_copyFrom_10 b1.1 fl_X5_41 (by decide) rfl ?_
  refine jw_putI (pc := 13) dX5_copyFrom_13 a0.1 fl_X5_41 fw_5_1 (by decide) rfl ?_
  replace h := h _ rfl
  generalize jrI M1 p (upd (M1.1 p) 1 (M1.1 o1 1)) = M2 at h ⊢
  refine jw_aload_n (pc := 16) (j := 0) dX5_copyFrom_16 rfl rfl ?_
  refine jw_aload_n (pc := 17) (j := 1) dX5_copyFrom_17 rfl rfl ?_
  refine jw_getI (pc := 18) dX5_copyFrom_18 b1.1 fl_X5_44 (by decide) rfl ?_
  refine jw_putI (pc := 21) dX5_copyFrom_21 a0.1 fl_X5_44 fw_5_2 (by decide) rfl ?_
  replace h := h _ rfl
  generalize jrI M2 p (upd (M2.1 p) 2 (M2.1 o1 2)) = M3 at h ⊢
  refine jw_aload_n (pc := 24) (j := 0) dX5_copyFrom_24 rfl rfl ?_
  refine jw_aload_n (pc := 25) (j := 1) dX5_copyFrom_25 rfl rfl ?_
  refine jw_getI (pc := 26) dX5_copyFrom_26 b1.1 fl_X5_47 (by decide) rfl ?_
  refine jw_putI (pc := 29) dX5_copyFrom_29 a0.1 fl_X5_47 fw_5_3 (by decide) rfl ?_
  replace h := h _ rfl
  generalize jrI M3 p (upd (M3.1 p) 3 (M3.1 o1 3)) = M4 at h ⊢
  refine jw_aload_n (pc := 32) (j := 0) dX5_copyFrom_32 rfl rfl ?_
  refine jw_aload_n (pc := 33) (j := 1) dX5_copyFrom_33 rfl rfl ?_
  refine jw_getI (pc := 34) dX5_copyFrom_34 b1.1 fl_X5_50 (by decide) rfl ?_
  refine jw_putI (pc := 37) dX5_copyFrom_37 a0.1 fl_X5_50 fw_5_4 (by decide) rfl ?_
  replace h := h _ rfl
  generalize jrI M4 p (upd (M4.1 p) 4 (M4.1 o1 4)) = M5 at h ⊢
  refine jw_aload_n (pc := 40) (j := 1) dX5_copyFrom_40 rfl rfl ?_
  refine jw_getR (pc := 41) (r := o1 + 1) dX5_copyFrom_41 b1.1 fl_X5_9 (by decide) rfl rfl ?_
  refine jw_iconst (pc := 44) (v := 0) dX5_copyFrom_44 rfl ?_
  refine jw_aload_n (pc := 45) (j := 0) dX5_copyFrom_45 rfl rfl ?_
  refine jw_getR (pc := 46) (r := p + 1) dX5_copyFrom_46 a0.1 fl_X5_9 (by decide) rfl rfl ?_
  refine jw_iconst (pc := 49) (v := 0) dX5_copyFrom_49 rfl ?_
  refine jw_bipush (pc := 50) (v := 25) dX5_copyFrom_50 rfl ?_
  obtain ⟨q1, q2, h⟩ := h
  refine jw_copyI (pc := 52) (a := 0) (b := 0) (k := 25) (st := []) dX5_copyFrom_52 ac_X5_63 ac_n ac_s ac_i b1.2.1 a0.2.1 rfl rfl rfl q1 q2 (by decide) (by decide) (jcw (Nat.le_of_ble_eq_true rfl)) ?_
  replace h := h _ rfl
  generalize jrI M5 (p + 1) (va_cpy (M5.1 (o1 + 1)) (M5.1 (p + 1)) 0 0 25) = M6 at h ⊢
  refine jw_aload_n (pc := 55) (j := 1) dX5_copyFrom_55 rfl rfl ?_
  refine jw_getR (pc := 56) (r := o1 + 2) dX5_copyFrom_56 b1.1 fl_X5_15 (by decide) rfl rfl ?_
  refine jw_iconst (pc := 59) (v := 0) dX5_copyFrom_59 rfl ?_
  refine jw_aload_n (pc := 60) (j := 0) dX5_copyFrom_60 rfl rfl ?_
  refine jw_getR (pc := 61) (r := p + 2) dX5_copyFrom_61 a0.1 fl_X5_15 (by decide) rfl rfl ?_
  refine jw_iconst (pc := 64) (v := 0) dX5_copyFrom_64 rfl ?_
  refine jw_bipush (pc := 65) (v := 25) dX5_copyFrom_65 rfl ?_
  obtain ⟨q1, q2, h⟩ := h
  refine jw_copyI (pc := 67) (a := 0) (b := 0) (k := 25) (st := []) dX5_copyFrom_67 ac_X5_63 ac_n ac_s ac_i b1.2.2.1 a0.2.2.1 rfl rfl rfl q1 q2 (by decide) (by decide) (jcw (Nat.le_of_ble_eq_true rfl)) ?_
  replace h := h _ rfl
  generalize jrI M6 (p + 2) (va_cpy (M6.1 (o1 + 2)) (M6.1 (p + 2)) 0 0 25) = M7 at h ⊢
  refine jw_aload_n (pc := 70) (j := 1) dX5_copyFrom_70 rfl rfl ?_
  refine jw_getR (pc := 71) (r := o1 + 3) dX5_copyFrom_71 b1.1 fl_X5_18 (by decide) rfl rfl ?_
  refine jw_iconst (pc := 74) (v := 0) dX5_copyFrom_74 rfl ?_
  refine jw_aload_n (pc := 75) (j := 0) dX5_copyFrom_75 rfl rfl ?_
  refine jw_getR (pc := 76) (r := p + 3) dX5_copyFrom_76 a0.1 fl_X5_18 (by decide) rfl rfl ?_
  refine jw_iconst (pc := 79) (v := 0) dX5_copyFrom_79 rfl ?_
  refine jw_bipush (pc := 80) (v := 25) dX5_copyFrom_80 rfl ?_
  obtain ⟨q1, q2, h⟩ := h
  refine jw_copyI (pc := 82) (a := 0) (b := 0) (k := 25) (st := []) dX5_copyFrom_82 ac_X5_63 ac_n ac_s ac_i b1.2.2.2.1 a0.2.2.2.1 rfl rfl rfl q1 q2 (by decide) (by decide) (jcw (Nat.le_of_ble_eq_true rfl)) ?_
  replace h := h _ rfl
  generalize jrI M7 (p + 3) (va_cpy (M7.1 (o1 + 3)) (M7.1 (p + 3)) 0 0 25) = M8 at h ⊢
  refine jw_aload_n (pc := 85) (j := 1) dX5_copyFrom_85 rfl rfl ?_
  refine jw_getR (pc := 86) (r := o1 + 4) dX5_copyFrom_86 b1.1 fl_X5_21 (by decide) rfl rfl ?_
  refine jw_iconst (pc := 89) (v := 0) dX5_copyFrom_89 rfl ?_
  refine jw_aload_n (pc := 90) (j := 0) dX5_copyFrom_90 rfl rfl ?_
  refine jw_getR (pc := 91) (r := p + 4) dX5_copyFrom_91 a0.1 fl_X5_21 (by decide) rfl rfl ?_
  refine jw_iconst (pc := 94) (v := 0) dX5_copyFrom_94 rfl ?_
  refine jw_bipush (pc := 95) (v := 6) dX5_copyFrom_95 rfl ?_
  obtain ⟨q1, q2, h⟩ := h
  refine jw_copyL (pc := 97) (a := 0) (b := 0) (k := 6) (st := []) dX5_copyFrom_97 ac_X5_63 ac_n ac_s ac_i b1.2.2.2.2.1 a0.2.2.2.2.1 rfl rfl rfl q1 q2 (by decide) (by decide) (jcw (Nat.le_of_ble_eq_true rfl)) ?_
  replace h := h _ rfl
  generalize jrL M8 (p + 4) (va_cpy (M8.2 (o1 + 4)) (M8.2 (p + 4)) 0 0 6) = M9 at h ⊢
  refine jw_aload_n (pc := 100) (j := 1) dX5_copyFrom_100 rfl rfl ?_
  refine jw_getR (pc := 101) (r := o1 + 5) dX5_copyFrom_101 b1.1 fl_X5_25 (by decide) rfl rfl ?_
  refine jw_iconst (pc := 104) (v := 0) dX5_copyFrom_104 rfl ?_
  refine jw_aload_n (pc := 105) (j := 0) dX5_copyFrom_105 rfl rfl ?_
  refine jw_getR (pc := 106) (r := p + 5) dX5_copyFrom_106 a0.1 fl_X5_25 (by decide) rfl rfl ?_
  refine jw_iconst (pc := 109) (v := 0) dX5_copyFrom_109 rfl ?_
  refine jw_bipush (pc := 110) (v := 6) dX5_copyFrom_110 rfl ?_
  obtain ⟨q1, q2, h⟩ := h
  refine jw_copyI (pc := 112) (a := 0) (b := 0) (k := 6) (st := []) dX5_copyFrom_112 ac_X5_63 ac_n ac_s ac_i b1.2.2.2.2.2.1 a0.2.2.2.2.2.1 rfl rfl rfl q1 q2 (by decide) (by decide) (jcw (Nat.le_of_ble_eq_true rfl)) ?_
  replace h := h _ rfl
  generalize jrI M9 (p + 5) (va_cpy (M9.1 (o1 + 5)) (M9.1 (p + 5)) 0 0 6) = M10 at h ⊢
  refine jw_aload_n (pc := 115) (j := 1) dX5_copyFrom_115 rfl rfl ?_
  refine jw_getR (pc := 116) (r := o1 + 6) dX5_copyFrom_116 b1.1 fl_X5_28 (by decide) rfl rfl ?_
  refine jw_iconst (pc := 119) (v := 0) dX5_copyFrom_119 rfl ?_
  refine jw_aload_n (pc := 120) (j := 0) dX5_copyFrom_120 rfl rfl ?_
  refine jw_getR (pc := 121) (r := p + 6) dX5_copyFrom_121 a0.1 fl_X5_28 (by decide) rfl rfl ?_
  refine jw_iconst (pc := 124) (v := 0) dX5_copyFrom_124 rfl ?_
  refine jw_bipush (pc := 125) (v := 54) dX5_copyFrom_125 rfl ?_
  obtain ⟨q1, q2, h⟩ := h
  refine jw_copyI (pc := 127) (a := 0) (b := 0) (k := 54) (st := []) dX5_copyFrom_127 ac_X5_63 ac_n ac_s ac_i b1.2.2.2.2.2.2.1 a0.2.2.2.2.2.2.1 rfl rfl rfl q1 q2 (by decide) (by decide) (jcw (Nat.le_of_ble_eq_true rfl)) ?_
  replace h := h _ rfl
  generalize jrI M10 (p + 6) (va_cpy (M10.1 (o1 + 6)) (M10.1 (p + 6)) 0 0 54) = M11 at h ⊢
  refine jw_aload_n (pc := 130) (j := 1) dX5_copyFrom_130 rfl rfl ?_
  refine jw_getR (pc := 131) (r := o1 + 7) dX5_copyFrom_131 b1.1 fl_X5_31 (by decide) rfl rfl ?_
  refine jw_iconst (pc := 134) (v := 0) dX5_copyFrom_134 rfl ?_
  refine jw_aload_n (pc := 135) (j := 0) dX5_copyFrom_135 rfl rfl ?_
  refine jw_getR (pc := 136) (r := p + 7) dX5_copyFrom_136 a0.1 fl_X5_31 (by decide) rfl rfl ?_
  refine jw_iconst (pc := 139) (v := 0) dX5_copyFrom_139 rfl ?_
  refine jw_sipush (pc := 140) (v := 200) dX5_copyFrom_140 rfl ?_
  obtain ⟨q1, q2, h⟩ := h
  refine jw_copyI (pc := 143) (a := 0) (b := 0) (k := 200) (st := []) dX5_copyFrom_143 ac_X5_63 ac_n ac_s ac_i b1.2.2.2.2.2.2.2.1 a0.2.2.2.2.2.2.2.1 rfl rfl rfl q1 q2 (by decide) (by decide) (jcw (Nat.le_of_ble_eq_true rfl)) ?_
  replace h := h _ rfl
  generalize jrI M11 (p + 7) (va_cpy (M11.1 (o1 + 7)) (M11.1 (p + 7)) 0 0 200) = M12 at h ⊢
  exact jw_vret (pc := 146) dX5_copyFrom_146 rfl ⟨rfl, h⟩
set_option maxRecDepth 20000 in
theorem b_X5_hasCell {x : jX} {tb : jT} {d : Nat} {M : jM} {P : jM → Bool → Prop} {p : Nat} {a1 : Int32} (a0 : aX5 tb p)
    (h : (a1 < 0 → P M false) ∧ (¬ a1 < 0 → ((M.1 p 2) ≤ a1 → P M false) ∧ (¬ (M.1 p 2) ≤ a1 → P M true))) :
    JC x tb mX5_hasCell d [.ref (x.2.2.2 p), .int a1] M (jZ P) := by
  refine JC.of rfl (Nat.le_of_ble_eq_true rfl) ?_
  refine jw_ls (ls' := [(0, .ref (x.2.2.2 p)), (1, .int a1)]) rfl ?_
  refine jw_iload_n (pc := 0) (j := 1) dX5_hasCell_0 rfl rfl ?_
  refine jw_if_lt (pc := 1) (tgt := 16) dX5_hasCell_1 (by decide) (fun c => ?_) (fun c => ?_)
  · replace h := h.1 c
    refine jw_iconst (pc := 16) (v := 0) dX5_hasCell_16 rfl ?_
    exact jw_zret (pc := 17) dX5_hasCell_17 rfl (Or.inl rfl) ⟨false, rfl, h⟩
  · replace h := h.2 c
    refine jw_iload_n (pc := 4) (j := 1) dX5_hasCell_4 rfl rfl ?_
    refine jw_aload_n (pc := 5) (j := 0) dX5_hasCell_5 rfl rfl ?_
    refine jw_getI (pc := 6) dX5_hasCell_6 a0.1 fl_X5_44 (by decide) rfl ?_
    refine jw_icmp_ge (pc := 9) (tgt := 16) dX5_hasCell_9 (by decide) (fun c => ?_) (fun c => ?_)
    · replace h := h.1 c
      refine jw_iconst (pc := 16) (v := 0) dX5_hasCell_16 rfl ?_
      exact jw_zret (pc := 17) dX5_hasCell_17 rfl (Or.inl rfl) ⟨false, rfl, h⟩
    · replace h := h.2 c
      refine jw_iconst (pc := 12) (v := 1) dX5_hasCell_12 rfl ?_
      refine jw_goto (pc := 13) (tgt := 17) dX5_hasCell_13 (by decide) ?_
      exact jw_zret (pc := 17) dX5_hasCell_17 rfl (Or.inr rfl) ⟨true, rfl, h⟩
set_option maxRecDepth 20000 in
theorem b_X5_hasVillage {x : jX} {tb : jT} {d : Nat} {M : jM} {P : jM → Bool → Prop} {p : Nat} {a1 : Int32} (a0 : aX5 tb p)
    (h : (a1 < 0 → P M false) ∧ (¬ a1 < 0 → ((M.1 p 3) ≤ a1 → P M false) ∧ (¬ (M.1 p 3) ≤ a1 → P M true))) :
    JC x tb mX5_hasVillage d [.ref (x.2.2.2 p), .int a1] M (jZ P) := by
  refine JC.of rfl (Nat.le_of_ble_eq_true rfl) ?_
  refine jw_ls (ls' := [(0, .ref (x.2.2.2 p)), (1, .int a1)]) rfl ?_
  refine jw_iload_n (pc := 0) (j := 1) dX5_hasVillage_0 rfl rfl ?_
  refine jw_if_lt (pc := 1) (tgt := 16) dX5_hasVillage_1 (by decide) (fun c => ?_) (fun c => ?_)
  · replace h := h.1 c
    refine jw_iconst (pc := 16) (v := 0) dX5_hasVillage_16 rfl ?_
    exact jw_zret (pc := 17) dX5_hasVillage_17 rfl (Or.inl rfl) ⟨false, rfl, h⟩
  · replace h := h.2 c
    refine jw_iload_n (pc := 4) (j := 1) dX5_hasVillage_4 rfl rfl ?_
    refine jw_aload_n (pc := 5) (j := 0) dX5_hasVillage_5 rfl rfl ?_
    refine jw_getI (pc := 6) dX5_hasVillage_6 a0.1 fl_X5_47 (by decide) rfl ?_
    refine jw_icmp_ge (pc := 9) (tgt := 16) dX5_hasVillage_9 (by decide) (fun c => ?_) (fun c => ?_)
    · replace h := h.1 c
      refine jw_iconst (pc := 16) (v := 0) dX5_hasVillage_16 rfl ?_
      exact jw_zret (pc := 17) dX5_hasVillage_17 rfl (Or.inl rfl) ⟨false, rfl, h⟩
    · replace h := h.2 c
      refine jw_iconst (pc := 12) (v := 1) dX5_hasVillage_12 rfl ?_
      refine jw_goto (pc := 13) (tgt := 17) dX5_hasVillage_13 (by decide) ?_
      exact jw_zret (pc := 17) dX5_hasVillage_17 rfl (Or.inr rfl) ⟨true, rfl, h⟩
set_option maxRecDepth 20000 in
theorem b_X5_hasSky {x : jX} {tb : jT} {d : Nat} {M : jM} {P : jM → Bool → Prop} {p : Nat} {a1 : Int32} (a0 : aX5 tb p)
    (h : (¬ (((M.1 p 4) >>> (a1 &&& 31)) &&& (1 : Int32)) = (1 : Int32) → P M false) ∧ ((((M.1 p 4) >>> (a1 &&& 31)) &&& (1 : Int32)) = (1 : Int32) → P M true)) :
    JC x tb mX5_hasSky d [.ref (x.2.2.2 p), .int a1] M (jZ P) := by
  refine JC.of rfl (Nat.le_of_ble_eq_true rfl) ?_
  refine jw_ls (ls' := [(0, .ref (x.2.2.2 p)), (1, .int a1)]) rfl ?_
  refine jw_aload_n (pc := 0) (j := 0) dX5_hasSky_0 rfl rfl ?_
  refine jw_getI (pc := 1) dX5_hasSky_1 a0.1 fl_X5_50 (by decide) rfl ?_
  refine jw_iload_n (pc := 4) (j := 1) dX5_hasSky_4 rfl rfl ?_
  refine jw_ishr (pc := 5) dX5_hasSky_5 ?_
  refine jw_iconst (pc := 6) (v := 1) dX5_hasSky_6 rfl ?_
  refine jw_iand (pc := 7) dX5_hasSky_7 ?_
  refine jw_iconst (pc := 8) (v := 1) dX5_hasSky_8 rfl ?_
  refine jw_icmp_ne (pc := 9) (tgt := 16) dX5_hasSky_9 (by decide) (fun c => ?_) (fun c => ?_)
  · replace h := h.1 c
    refine jw_iconst (pc := 16) (v := 0) dX5_hasSky_16 rfl ?_
    exact jw_zret (pc := 17) dX5_hasSky_17 rfl (Or.inl rfl) ⟨false, rfl, h⟩
  · replace h := h.2 c
    refine jw_iconst (pc := 12) (v := 1) dX5_hasSky_12 rfl ?_
    refine jw_goto (pc := 13) (tgt := 17) dX5_hasSky_13 (by decide) ?_
    exact jw_zret (pc := 17) dX5_hasSky_17 rfl (Or.inr rfl) ⟨true, rfl, h⟩
set_option maxRecDepth 20000 in
theorem b_X5_hasStrip {x : jX} {tb : jT} {d : Nat} {M : jM} {P : jM → Bool → Prop} {p : Nat} {a1 : Int32} {a2 : Int32} (a0 : aX5 tb p)
    (h : JC x tb mX5_hasVillage d [.ref (x.2.2.2 p), .int a1] M (jZ fun M1 b1 => (b1 = false → P M1 false) ∧ (b1 = true → (a2 < 0 → P M1 false) ∧ (¬ a2 < 0 → JC x tb mX5_stripsOf d [.ref (x.2.2.2 p), .int a1] M1 (jI fun M2 r1 => (r1 ≤ a2 → P M2 false) ∧ (¬ r1 ≤ a2 → P M2 true)))))) :
    JC x tb mX5_hasStrip (d + 1) [.ref (x.2.2.2 p), .int a1, .int a2] M (jZ P) := by
  refine JC.of rfl (Nat.le_of_ble_eq_true rfl) ?_
  refine jw_ls (ls' := [(0, .ref (x.2.2.2 p)), (1, .int a1), (2, .int a2)]) rfl ?_
  refine jw_aload_n (pc := 0) (j := 0) dX5_hasStrip_0 rfl rfl ?_
  refine jw_iload_n (pc := 1) (j := 1) dX5_hasStrip_1 rfl rfl ?_
  refine jw_callV (pc := 2) (m2 := mX5_hasVillage) (As := [.int a1]) (st := []) dX5_hasStrip_2 a0.1 (by decide) rfl rfl gm_X5_hasVillage ml_X5_69 rfl (Nat.le_of_ble_eq_true rfl) (JC.mono h ?_)
  clear h
  rintro M1 _ ⟨b1, rfl, h⟩
  refine jw_st (st' := [.int (jb b1)]) rfl ?_
  refine jw_if_eq (pc := 5) (tgt := 25) dX5_hasStrip_5 (by decide) (fun c => ?_) (fun c => ?_)
  · replace h := h.1 ((jb_0 _).mp c)
    refine jw_iconst (pc := 25) (v := 0) dX5_hasStrip_25 rfl ?_
    exact jw_zret (pc := 26) dX5_hasStrip_26 rfl (Or.inl rfl) ⟨false, rfl, h⟩
  · replace h := h.2 (jb_ne c)
    refine jw_iload_n (pc := 8) (j := 2) dX5_hasStrip_8 rfl rfl ?_
    refine jw_if_lt (pc := 9) (tgt := 25) dX5_hasStrip_9 (by decide) (fun c => ?_) (fun c => ?_)
    · replace h := h.1 c
      refine jw_iconst (pc := 25) (v := 0) dX5_hasStrip_25 rfl ?_
      exact jw_zret (pc := 26) dX5_hasStrip_26 rfl (Or.inl rfl) ⟨false, rfl, h⟩
    · replace h := h.2 c
      refine jw_iload_n (pc := 12) (j := 2) dX5_hasStrip_12 rfl rfl ?_
      refine jw_aload_n (pc := 13) (j := 0) dX5_hasStrip_13 rfl rfl ?_
      refine jw_iload_n (pc := 14) (j := 1) dX5_hasStrip_14 rfl rfl ?_
      refine jw_callV (pc := 15) (m2 := mX5_stripsOf) (As := [.int a1]) (st := [.int a2]) dX5_hasStrip_15 a0.1 (by decide) rfl rfl gm_X5_stripsOf ml_X5_73 rfl (Nat.le_of_ble_eq_true rfl) (JC.mono h ?_)
      clear h
      rintro M2 _ ⟨r1, rfl, h⟩
      refine jw_st (st' := [.int r1, .int a2]) rfl ?_
      refine jw_icmp_ge (pc := 18) (tgt := 25) dX5_hasStrip_18 (by decide) (fun c => ?_) (fun c => ?_)
      · replace h := h.1 c
        refine jw_iconst (pc := 25) (v := 0) dX5_hasStrip_25 rfl ?_
        exact jw_zret (pc := 26) dX5_hasStrip_26 rfl (Or.inl rfl) ⟨false, rfl, h⟩
      · replace h := h.2 c
        refine jw_iconst (pc := 21) (v := 1) dX5_hasStrip_21 rfl ?_
        refine jw_goto (pc := 22) (tgt := 26) dX5_hasStrip_22 (by decide) ?_
        exact jw_zret (pc := 26) dX5_hasStrip_26 rfl (Or.inr rfl) ⟨true, rfl, h⟩
set_option maxRecDepth 20000 in
theorem b_X5_hasSet {x : jX} {tb : jT} {d : Nat} {M : jM} {P : jM → Bool → Prop} {p : Nat} {a1 : Int32} (a0 : aX5 tb p)
    (h : (a1 < 0 → P M false) ∧ (¬ a1 < 0 → (((1 : Int32) <<< ((M.1 p 3) &&& 31)) ≤ a1 → P M false) ∧ (¬ ((1 : Int32) <<< ((M.1 p 3) &&& 31)) ≤ a1 → P M true))) :
    JC x tb mX5_hasSet d [.ref (x.2.2.2 p), .int a1] M (jZ P) := by
  refine JC.of rfl (Nat.le_of_ble_eq_true rfl) ?_
  refine jw_ls (ls' := [(0, .ref (x.2.2.2 p)), (1, .int a1)]) rfl ?_
  refine jw_iload_n (pc := 0) (j := 1) dX5_hasSet_0 rfl rfl ?_
  refine jw_if_lt (pc := 1) (tgt := 18) dX5_hasSet_1 (by decide) (fun c => ?_) (fun c => ?_)
  · replace h := h.1 c
    refine jw_iconst (pc := 18) (v := 0) dX5_hasSet_18 rfl ?_
    exact jw_zret (pc := 19) dX5_hasSet_19 rfl (Or.inl rfl) ⟨false, rfl, h⟩
  · replace h := h.2 c
    refine jw_iload_n (pc := 4) (j := 1) dX5_hasSet_4 rfl rfl ?_
    refine jw_iconst (pc := 5) (v := 1) dX5_hasSet_5 rfl ?_
    refine jw_aload_n (pc := 6) (j := 0) dX5_hasSet_6 rfl rfl ?_
    refine jw_getI (pc := 7) dX5_hasSet_7 a0.1 fl_X5_47 (by decide) rfl ?_
    refine jw_ishl (pc := 10) dX5_hasSet_10 ?_
    refine jw_icmp_ge (pc := 11) (tgt := 18) dX5_hasSet_11 (by decide) (fun c => ?_) (fun c => ?_)
    · replace h := h.1 c
      refine jw_iconst (pc := 18) (v := 0) dX5_hasSet_18 rfl ?_
      exact jw_zret (pc := 19) dX5_hasSet_19 rfl (Or.inl rfl) ⟨false, rfl, h⟩
    · replace h := h.2 c
      refine jw_iconst (pc := 14) (v := 1) dX5_hasSet_14 rfl ?_
      refine jw_goto (pc := 15) (tgt := 19) dX5_hasSet_15 (by decide) ?_
      exact jw_zret (pc := 19) dX5_hasSet_19 rfl (Or.inr rfl) ⟨true, rfl, h⟩
set_option maxRecDepth 20000 in
theorem b_X5_stripAt {x : jX} {tb : jT} {d : Nat} {M : jM} {P : jM → Int32 → Prop} {p : Nat} {a1 : Int32} {a2 : Int32} (a0 : aX5 tb p)
    (h : ∃ j1, j1 < 200 ∧ (a1 * (25 : Int32)) + a2 = nI j1 ∧ (P M (M.1 (p + 7) j1))) :
    JC x tb mX5_stripAt d [.ref (x.2.2.2 p), .int a1, .int a2] M (jI P) := by
  refine JC.of rfl (Nat.le_of_ble_eq_true rfl) ?_
  refine jw_ls (ls' := [(0, .ref (x.2.2.2 p)), (1, .int a1), (2, .int a2)]) rfl ?_
  refine jw_aload_n (pc := 0) (j := 0) dX5_stripAt_0 rfl rfl ?_
  refine jw_getR (pc := 1) (r := p + 7) dX5_stripAt_1 a0.1 fl_X5_31 (by decide) rfl rfl ?_
  refine jw_iload_n (pc := 4) (j := 1) dX5_stripAt_4 rfl rfl ?_
  refine jw_bipush (pc := 5) (v := 25) dX5_stripAt_5 rfl ?_
  refine jw_imul (pc := 7) dX5_stripAt_7 ?_
  refine jw_iload_n (pc := 8) (j := 2) dX5_stripAt_8 rfl rfl ?_
  refine jw_iadd (pc := 9) dX5_stripAt_9 ?_
  obtain ⟨j1, hj1, ej1, h⟩ := h
  refine jw_iald (pc := 10) (j := j1) dX5_stripAt_10 a0.2.2.2.2.2.2.2.1 hj1 ej1 (by decide) ?_
  exact jw_iret (pc := 11) dX5_stripAt_11 rfl ⟨_, rfl, h⟩
set_option maxRecDepth 20000 in
theorem b_X5_stripsOf {x : jX} {tb : jT} {d : Nat} {M : jM} {P : jM → Int32 → Prop} {p : Nat} {a1 : Int32} (a0 : aX5 tb p)
    (h : ∃ j1, j1 < 6 ∧ a1 = nI j1 ∧ (JC x tb mX5_stripsFrom d [.ref (x.2.2.2 p), .int (M.1 (p + 5) j1)] M (jI fun M1 r1 => P M1 r1))) :
    JC x tb mX5_stripsOf (d + 1) [.ref (x.2.2.2 p), .int a1] M (jI P) := by
  refine JC.of rfl (Nat.le_of_ble_eq_true rfl) ?_
  refine jw_ls (ls' := [(0, .ref (x.2.2.2 p)), (1, .int a1)]) rfl ?_
  refine jw_aload_n (pc := 0) (j := 0) dX5_stripsOf_0 rfl rfl ?_
  refine jw_aload_n (pc := 1) (j := 0) dX5_stripsOf_1 rfl rfl ?_
  refine jw_getR (pc := 2) (r := p + 5) dX5_stripsOf_2 a0.1 fl_X5_25 (by decide) rfl rfl ?_
  refine jw_iload_n (pc := 5) (j := 1) dX5_stripsOf_5 rfl rfl ?_
  obtain ⟨j1, hj1, ej1, h⟩ := h
  refine jw_iald (pc := 6) (j := j1) dX5_stripsOf_6 a0.2.2.2.2.2.1 hj1 ej1 (by decide) ?_
  refine jw_callV (pc := 7) (m2 := mX5_stripsFrom) (As := [.int (M.1 (p + 5) j1)]) (st := []) dX5_stripsOf_7 a0.1 (by decide) rfl rfl gm_X5_stripsFrom ml_X5_77 rfl (Nat.le_of_ble_eq_true rfl) (JC.mono h ?_)
  clear h
  rintro M1 _ ⟨r1, rfl, h⟩
  refine jw_st (st' := [.int r1]) rfl ?_
  exact jw_iret (pc := 10) dX5_stripsOf_10 rfl ⟨_, rfl, h⟩
set_option maxRecDepth 20000 in
theorem b_X5_stripsFrom {x : jX} {tb : jT} {d : Nat} {M : jM} {P : jM → Int32 → Prop} {p : Nat} {a1 : Int32} (a0 : aX5 tb p)
    (h : (¬ (M.1 p 2) = 0 → (a1 = 0 → P M (M.1 p 0)) ∧ (¬ a1 = 0 → (a1 = 1 → P M (((M.1 p 0) + (M.1 p 1)) - (1 : Int32))) ∧ (¬ a1 = 1 → (a1 = 2 → P M (M.1 p 1)) ∧ (¬ a1 = 2 → (a1 = 3 → P M (((M.1 p 0) + (M.1 p 1)) - (1 : Int32))) ∧ (¬ a1 = 3 → (a1 = 4 → P M (M.1 p 0)) ∧ (¬ a1 = 4 → (a1 = 5 → P M (((M.1 p 0) + (M.1 p 1)) - (1 : Int32))) ∧ (¬ a1 = 5 → (a1 = 6 → P M (M.1 p 1)) ∧ (¬ a1 = 6 → P M (((M.1 p 0) + (M.1 p 1)) - (1 : Int32)))))))))) ∧ ((M.1 p 2) = 0 → P M (0 : Int32))) :
    JC x tb mX5_stripsFrom d [.ref (x.2.2.2 p), .int a1] M (jI P) := by
  refine JC.of rfl (Nat.le_of_ble_eq_true rfl) ?_
  refine jw_ls (ls' := [(0, .ref (x.2.2.2 p)), (1, .int a1)]) rfl ?_
  refine jw_aload_n (pc := 0) (j := 0) dX5_stripsFrom_0 rfl rfl ?_
  refine jw_getI (pc := 1) dX5_stripsFrom_1 a0.1 fl_X5_44 (by decide) rfl ?_
  refine jw_if_ne (pc := 4) (tgt := 9) dX5_stripsFrom_4 (by decide) (fun c => ?_) (fun c => ?_)
  · replace h := h.1 c
    refine jw_iload_n (pc := 9) (j := 1) dX5_stripsFrom_9 rfl rfl ?_
    refine (Decidable.em (a1 = 0)).elim (fun c0 => ?_) (fun c0 => ?_)
    · replace h := h.1 c0
      refine jw_tableIn (pc := 10) (tgt := 52) dX5_stripsFrom_10 (by rw [c0]; decide) (by rw [c0]; decide) (by rw [c0]; rfl) (by decide) ?_
      refine jw_aload_n (pc := 52) (j := 0) dX5_stripsFrom_52 rfl rfl ?_
      refine jw_getI (pc := 53) dX5_stripsFrom_53 a0.1 fl_X5_37 (by decide) rfl ?_
      exact jw_iret (pc := 56) dX5_stripsFrom_56 rfl ⟨_, rfl, h⟩
    · replace h := h.2 c0
      refine (Decidable.em (a1 = 1)).elim (fun c1 => ?_) (fun c1 => ?_)
      · replace h := h.1 c1
        refine jw_tableIn (pc := 10) (tgt := 62) dX5_stripsFrom_10 (by rw [c1]; decide) (by rw [c1]; decide) (by rw [c1]; rfl) (by decide) ?_
        refine jw_aload_n (pc := 62) (j := 0) dX5_stripsFrom_62 rfl rfl ?_
        refine jw_getI (pc := 63) dX5_stripsFrom_63 a0.1 fl_X5_37 (by decide) rfl ?_
        refine jw_aload_n (pc := 66) (j := 0) dX5_stripsFrom_66 rfl rfl ?_
        refine jw_getI (pc := 67) dX5_stripsFrom_67 a0.1 fl_X5_41 (by decide) rfl ?_
        refine jw_iadd (pc := 70) dX5_stripsFrom_70 ?_
        refine jw_iconst (pc := 71) (v := 1) dX5_stripsFrom_71 rfl ?_
        refine jw_isub (pc := 72) dX5_stripsFrom_72 ?_
        exact jw_iret (pc := 73) dX5_stripsFrom_73 rfl ⟨_, rfl, h⟩
      · replace h := h.2 c1
        refine (Decidable.em (a1 = 2)).elim (fun c2 => ?_) (fun c2 => ?_)
        · replace h := h.1 c2
          refine jw_tableIn (pc := 10) (tgt := 57) dX5_stripsFrom_10 (by rw [c2]; decide) (by rw [c2]; decide) (by rw [c2]; rfl) (by decide) ?_
          refine jw_aload_n (pc := 57) (j := 0) dX5_stripsFrom_57 rfl rfl ?_
          refine jw_getI (pc := 58) dX5_stripsFrom_58 a0.1 fl_X5_41 (by decide) rfl ?_
          exact jw_iret (pc := 61) dX5_stripsFrom_61 rfl ⟨_, rfl, h⟩
        · replace h := h.2 c2
          refine (Decidable.em (a1 = 3)).elim (fun c3 => ?_) (fun c3 => ?_)
          · replace h := h.1 c3
            refine jw_tableIn (pc := 10) (tgt := 62) dX5_stripsFrom_10 (by rw [c3]; decide) (by rw [c3]; decide) (by rw [c3]; rfl) (by decide) ?_
            refine jw_aload_n (pc := 62) (j := 0) dX5_stripsFrom_62 rfl rfl ?_
            refine jw_getI (pc := 63) dX5_stripsFrom_63 a0.1 fl_X5_37 (by decide) rfl ?_
            refine jw_aload_n (pc := 66) (j := 0) dX5_stripsFrom_66 rfl rfl ?_
            refine jw_getI (pc := 67) dX5_stripsFrom_67 a0.1 fl_X5_41 (by decide) rfl ?_
            refine jw_iadd (pc := 70) dX5_stripsFrom_70 ?_
            refine jw_iconst (pc := 71) (v := 1) dX5_stripsFrom_71 rfl ?_
            refine jw_isub (pc := 72) dX5_stripsFrom_72 ?_
            exact jw_iret (pc := 73) dX5_stripsFrom_73 rfl ⟨_, rfl, h⟩
          · replace h := h.2 c3
            refine (Decidable.em (a1 = 4)).elim (fun c4 => ?_) (fun c4 => ?_)
            · replace h := h.1 c4
              refine jw_tableIn (pc := 10) (tgt := 52) dX5_stripsFrom_10 (by rw [c4]; decide) (by rw [c4]; decide) (by rw [c4]; rfl) (by decide) ?_
              refine jw_aload_n (pc := 52) (j := 0) dX5_stripsFrom_52 rfl rfl ?_
              refine jw_getI (pc := 53) dX5_stripsFrom_53 a0.1 fl_X5_37 (by decide) rfl ?_
              exact jw_iret (pc := 56) dX5_stripsFrom_56 rfl ⟨_, rfl, h⟩
            · replace h := h.2 c4
              refine (Decidable.em (a1 = 5)).elim (fun c5 => ?_) (fun c5 => ?_)
              · replace h := h.1 c5
                refine jw_tableIn (pc := 10) (tgt := 62) dX5_stripsFrom_10 (by rw [c5]; decide) (by rw [c5]; decide) (by rw [c5]; rfl) (by decide) ?_
                refine jw_aload_n (pc := 62) (j := 0) dX5_stripsFrom_62 rfl rfl ?_
                refine jw_getI (pc := 63) dX5_stripsFrom_63 a0.1 fl_X5_37 (by decide) rfl ?_
                refine jw_aload_n (pc := 66) (j := 0) dX5_stripsFrom_66 rfl rfl ?_
                refine jw_getI (pc := 67) dX5_stripsFrom_67 a0.1 fl_X5_41 (by decide) rfl ?_
                refine jw_iadd (pc := 70) dX5_stripsFrom_70 ?_
                refine jw_iconst (pc := 71) (v := 1) dX5_stripsFrom_71 rfl ?_
                refine jw_isub (pc := 72) dX5_stripsFrom_72 ?_
                exact jw_iret (pc := 73) dX5_stripsFrom_73 rfl ⟨_, rfl, h⟩
              · replace h := h.2 c5
                refine (Decidable.em (a1 = 6)).elim (fun c6 => ?_) (fun c6 => ?_)
                · replace h := h.1 c6
                  refine jw_tableIn (pc := 10) (tgt := 57) dX5_stripsFrom_10 (by rw [c6]; decide) (by rw [c6]; decide) (by rw [c6]; rfl) (by decide) ?_
                  refine jw_aload_n (pc := 57) (j := 0) dX5_stripsFrom_57 rfl rfl ?_
                  refine jw_getI (pc := 58) dX5_stripsFrom_58 a0.1 fl_X5_41 (by decide) rfl ?_
                  exact jw_iret (pc := 61) dX5_stripsFrom_61 rfl ⟨_, rfl, h⟩
                · replace h := h.2 c6
                  have e0 := jne_i (k := 0) (n := 0) c0 (by decide)
                  have e1 := jne_i (k := 1) (n := 1) c1 (by decide)
                  have e2 := jne_i (k := 2) (n := 2) c2 (by decide)
                  have e3 := jne_i (k := 3) (n := 3) c3 (by decide)
                  have e4 := jne_i (k := 4) (n := 4) c4 (by decide)
                  have e5 := jne_i (k := 5) (n := 5) c5 (by decide)
                  have e6 := jne_i (k := 6) (n := 6) c6 (by decide)
                  refine jw_tableOut (pc := 10) (tgt := 62) dX5_stripsFrom_10 (by omega) (by decide) ?_
                  refine jw_aload_n (pc := 62) (j := 0) dX5_stripsFrom_62 rfl rfl ?_
                  refine jw_getI (pc := 63) dX5_stripsFrom_63 a0.1 fl_X5_37 (by decide) rfl ?_
                  refine jw_aload_n (pc := 66) (j := 0) dX5_stripsFrom_66 rfl rfl ?_
                  refine jw_getI (pc := 67) dX5_stripsFrom_67 a0.1 fl_X5_41 (by decide) rfl ?_
                  refine jw_iadd (pc := 70) dX5_stripsFrom_70 ?_
                  refine jw_iconst (pc := 71) (v := 1) dX5_stripsFrom_71 rfl ?_
                  refine jw_isub (pc := 72) dX5_stripsFrom_72 ?_
                  exact jw_iret (pc := 73) dX5_stripsFrom_73 rfl ⟨_, rfl, h⟩
  · replace h := h.2 c
    refine jw_iconst (pc := 7) (v := 0) dX5_stripsFrom_7 rfl ?_
    exact jw_iret (pc := 8) dX5_stripsFrom_8 rfl ⟨_, rfl, h⟩
set_option maxRecDepth 20000 in
theorem b_X5_villageNamed {x : jX} {tb : jT} {d : Nat} {M : jM} {P : jM → Int32 → Prop} {p : Nat} {a1 : Int64} 
    (h : JW x tb mX5_villageNamed d (jI P) 2 [(0, .ref (x.2.2.2 p)), (1, .long a1), (3, .int (0 : Int32))] [] M) :
    JC x tb mX5_villageNamed d [.ref (x.2.2.2 p), .long a1] M (jI P) := by
  refine JC.of rfl (Nat.le_of_ble_eq_true rfl) ?_
  refine jw_ls (ls' := [(0, .ref (x.2.2.2 p)), (1, .long a1)]) rfl ?_
  refine jw_iconst (pc := 0) (v := 0) dX5_villageNamed_0 rfl ?_
  refine jw_istore_n (pc := 1) (ls' := [(3, .int (0 : Int32)), (0, .ref (x.2.2.2 p)), (1, .long a1)]) dX5_villageNamed_1 rfl (by decide) rfl ?_
  exact jw_sub [1, 2, 0] rfl h
set_option maxRecDepth 20000 in
theorem b_X5_villageNamed_2 {x : jX} {tb : jT} {d : Nat} {M : jM} {P : jM → Int32 → Prop} {p : Nat} {l1 : Int64} {l3 : Int32} (a0 : aX5 tb p)
    (h : ((M.1 p 3) ≤ l3 → P M (-1 : Int32)) ∧ (¬ (M.1 p 3) ≤ l3 → ∃ j1, j1 < 6 ∧ l3 = nI j1 ∧ ((¬ (M.2 (p + 4) j1) = l1 → JW x tb mX5_villageNamed d (jI P) 2 [(0, .ref (x.2.2.2 p)), (1, .long l1), (3, .int (l3 + 1))] [] M) ∧ ((M.2 (p + 4) j1) = l1 → P M l3)))) :
    JW x tb mX5_villageNamed d (jI P) 2 [(0, .ref (x.2.2.2 p)), (1, .long l1), (3, .int l3)] [] M := by
  refine jw_iload_n (pc := 2) (j := 2) dX5_villageNamed_2 rfl rfl ?_
  refine jw_aload_n (pc := 3) (j := 0) dX5_villageNamed_3 rfl rfl ?_
  refine jw_getI (pc := 4) dX5_villageNamed_4 a0.1 fl_X5_47 (by decide) rfl ?_
  refine jw_icmp_ge (pc := 7) (tgt := 29) dX5_villageNamed_7 (by decide) (fun c => ?_) (fun c => ?_)
  · replace h := h.1 c
    refine jw_iconst (pc := 29) (v := (-1)) dX5_villageNamed_29 rfl ?_
    exact jw_iret (pc := 30) dX5_villageNamed_30 rfl ⟨_, rfl, h⟩
  · replace h := h.2 c
    refine jw_aload_n (pc := 10) (j := 0) dX5_villageNamed_10 rfl rfl ?_
    refine jw_getR (pc := 11) (r := p + 4) dX5_villageNamed_11 a0.1 fl_X5_21 (by decide) rfl rfl ?_
    refine jw_iload_n (pc := 14) (j := 2) dX5_villageNamed_14 rfl rfl ?_
    obtain ⟨j1, hj1, ej1, h⟩ := h
    refine jw_lald (pc := 15) (j := j1) dX5_villageNamed_15 a0.2.2.2.2.1 hj1 ej1 (by decide) ?_
    refine jw_lload_n (pc := 16) (j := 1) dX5_villageNamed_16 rfl rfl ?_
    refine jw_lcmp (pc := 17) dX5_villageNamed_17 ?_
    refine jw_if_ne (pc := 18) (tgt := 23) dX5_villageNamed_18 (by decide) (fun c => ?_) (fun c => ?_)
    · replace h := h.1 (fun z => c ((jcmp_eq _ _).mpr z))
      refine jw_iinc (pc := 23) (j := 2) (u := l3 + 1) (ls' := [(3, .int (l3 + 1)), (0, .ref (x.2.2.2 p)), (1, .long l1)]) dX5_villageNamed_23 rfl rfl (by decide) rfl ?_
      refine jw_goto (pc := 26) (tgt := 2) dX5_villageNamed_26 (by decide) ?_
      exact jw_sub [1, 2, 0] rfl h
    · replace h := h.2 ((jcmp_eq _ _).mp c)
      refine jw_iload_n (pc := 21) (j := 2) dX5_villageNamed_21 rfl rfl ?_
      exact jw_iret (pc := 22) dX5_villageNamed_22 rfl ⟨_, rfl, h⟩
set_option maxRecDepth 20000 in
theorem b_X5_stripsPromised {x : jX} {tb : jT} {d : Nat} {M : jM} {P : jM → Int32 → Prop} {p : Nat} {a1 : Int32} 
    (h : JW x tb mX5_stripsPromised (d + 1) (jI P) 4 [(0, .ref (x.2.2.2 p)), (1, .int a1), (2, .int (0 : Int32)), (3, .int (0 : Int32))] [] M) :
    JC x tb mX5_stripsPromised (d + 1) [.ref (x.2.2.2 p), .int a1] M (jI P) := by
  refine JC.of rfl (Nat.le_of_ble_eq_true rfl) ?_
  refine jw_ls (ls' := [(0, .ref (x.2.2.2 p)), (1, .int a1)]) rfl ?_
  refine jw_iconst (pc := 0) (v := 0) dX5_stripsPromised_0 rfl ?_
  refine jw_istore_n (pc := 1) (ls' := [(2, .int (0 : Int32)), (0, .ref (x.2.2.2 p)), (1, .int a1)]) dX5_stripsPromised_1 rfl (by decide) rfl ?_
  refine jw_iconst (pc := 2) (v := 0) dX5_stripsPromised_2 rfl ?_
  refine jw_istore_n (pc := 3) (ls' := [(3, .int (0 : Int32)), (2, .int (0 : Int32)), (0, .ref (x.2.2.2 p)), (1, .int a1)]) dX5_stripsPromised_3 rfl (by decide) rfl ?_
  exact jw_sub [2, 3, 1, 0] rfl h
set_option maxRecDepth 20000 in
theorem b_X5_stripsPromised_4 {x : jX} {tb : jT} {d : Nat} {M : jM} {P : jM → Int32 → Prop} {p : Nat} {l1 : Int32} {l2 : Int32} {l3 : Int32} (a0 : aX5 tb p)
    (h : ((M.1 p 3) ≤ l3 → P M l2) ∧ (¬ (M.1 p 3) ≤ l3 → (((l1 &&& (M.1 p 4)) &&& ((1 : Int32) <<< (l3 &&& 31))) = 0 → JW x tb mX5_stripsPromised (d + 1) (jI P) 4 [(0, .ref (x.2.2.2 p)), (1, .int l1), (2, .int (l2 + (0 : Int32))), (3, .int (l3 + 1))] [] M) ∧ (¬ ((l1 &&& (M.1 p 4)) &&& ((1 : Int32) <<< (l3 &&& 31))) = 0 → JC x tb mX5_stripsOf d [.ref (x.2.2.2 p), .int l3] M (jI fun M1 r1 => JW x tb mX5_stripsPromised (d + 1) (jI P) 4 [(0, .ref (x.2.2.2 p)), (1, .int l1), (2, .int (l2 + r1)), (3, .int (l3 + 1))] [] M1)))) :
    JW x tb mX5_stripsPromised (d + 1) (jI P) 4 [(0, .ref (x.2.2.2 p)), (1, .int l1), (2, .int l2), (3, .int l3)] [] M := by
  refine jw_iload_n (pc := 4) (j := 3) dX5_stripsPromised_4 rfl rfl ?_
  refine jw_aload_n (pc := 5) (j := 0) dX5_stripsPromised_5 rfl rfl ?_
  refine jw_getI (pc := 6) dX5_stripsPromised_6 a0.1 fl_X5_47 (by decide) rfl ?_
  refine jw_icmp_ge (pc := 9) (tgt := 43) dX5_stripsPromised_9 (by decide) (fun c => ?_) (fun c => ?_)
  · replace h := h.1 c
    refine jw_iload_n (pc := 43) (j := 2) dX5_stripsPromised_43 rfl rfl ?_
    exact jw_iret (pc := 44) dX5_stripsPromised_44 rfl ⟨_, rfl, h⟩
  · replace h := h.2 c
    refine jw_iload_n (pc := 12) (j := 2) dX5_stripsPromised_12 rfl rfl ?_
    refine jw_iload_n (pc := 13) (j := 1) dX5_stripsPromised_13 rfl rfl ?_
    refine jw_aload_n (pc := 14) (j := 0) dX5_stripsPromised_14 rfl rfl ?_
    refine jw_getI (pc := 15) dX5_stripsPromised_15 a0.1 fl_X5_50 (by decide) rfl ?_
    refine jw_iand (pc := 18) dX5_stripsPromised_18 ?_
    refine jw_iconst (pc := 19) (v := 1) dX5_stripsPromised_19 rfl ?_
    refine jw_iload_n (pc := 20) (j := 3) dX5_stripsPromised_20 rfl rfl ?_
    refine jw_ishl (pc := 21) dX5_stripsPromised_21 ?_
    refine jw_iand (pc := 22) dX5_stripsPromised_22 ?_
    refine jw_if_eq (pc := 23) (tgt := 34) dX5_stripsPromised_23 (by decide) (fun c => ?_) (fun c => ?_)
    · replace h := h.1 c
      refine jw_iconst (pc := 34) (v := 0) dX5_stripsPromised_34 rfl ?_
      refine jw_iadd (pc := 35) dX5_stripsPromised_35 ?_
      refine jw_istore_n (pc := 36) (ls' := [(2, .int (l2 + (0 : Int32))), (0, .ref (x.2.2.2 p)), (1, .int l1), (3, .int l3)]) dX5_stripsPromised_36 rfl (by decide) rfl ?_
      refine jw_iinc (pc := 37) (j := 3) (u := l3 + 1) (ls' := [(3, .int (l3 + 1)), (2, .int (l2 + (0 : Int32))), (0, .ref (x.2.2.2 p)), (1, .int l1)]) dX5_stripsPromised_37 rfl rfl (by decide) rfl ?_
      refine jw_goto (pc := 40) (tgt := 4) dX5_stripsPromised_40 (by decide) ?_
      exact jw_sub [2, 3, 1, 0] rfl h
    · replace h := h.2 c
      refine jw_aload_n (pc := 26) (j := 0) dX5_stripsPromised_26 rfl rfl ?_
      refine jw_iload_n (pc := 27) (j := 3) dX5_stripsPromised_27 rfl rfl ?_
      refine jw_callV (pc := 28) (m2 := mX5_stripsOf) (As := [.int l3]) (st := [.int l2]) dX5_stripsPromised_28 a0.1 (by decide) rfl rfl gm_X5_stripsOf ml_X5_73 rfl (Nat.le_of_ble_eq_true rfl) (JC.mono h ?_)
      clear h
      rintro M1 _ ⟨r1, rfl, h⟩
      refine jw_st (st' := [.int r1, .int l2]) rfl ?_
      refine jw_goto (pc := 31) (tgt := 35) dX5_stripsPromised_31 (by decide) ?_
      refine jw_iadd (pc := 35) dX5_stripsPromised_35 ?_
      refine jw_istore_n (pc := 36) (ls' := [(2, .int (l2 + r1)), (0, .ref (x.2.2.2 p)), (1, .int l1), (3, .int l3)]) dX5_stripsPromised_36 rfl (by decide) rfl ?_
      refine jw_iinc (pc := 37) (j := 3) (u := l3 + 1) (ls' := [(3, .int (l3 + 1)), (2, .int (l2 + r1)), (0, .ref (x.2.2.2 p)), (1, .int l1)]) dX5_stripsPromised_37 rfl rfl (by decide) rfl ?_
      refine jw_goto (pc := 40) (tgt := 4) dX5_stripsPromised_40 (by decide) ?_
      exact jw_sub [2, 3, 1, 0] rfl h
set_option maxRecDepth 20000 in
theorem b_X5_lookFrom {x : jX} {tb : jT} {d : Nat} {M : jM} {P : jM → Prop} {p : Nat} {a1 : Int32} {o2 : Nat} {o3 : Nat} {a4 : Int32} (a0 : aX5 tb p)
    (h : JC x tb mX5_stripsFrom d [.ref (x.2.2.2 p), .int a1] M (jI fun M1 r1 => JW x tb mX5_lookFrom (d + 1) (jV P) 10 [(0, .ref (x.2.2.2 p)), (1, .int a1), (2, .ref (x.2.2.2 o2)), (3, .ref (x.2.2.2 o3)), (4, .int a4), (5, .int r1), (6, .int (0 : Int32))] [] M1)) :
    JC x tb mX5_lookFrom (d + 1) [.ref (x.2.2.2 p), .int a1, .ref (x.2.2.2 o2), .ref (x.2.2.2 o3), .int a4] M (jV P) := by
  refine JC.of rfl (Nat.le_of_ble_eq_true rfl) ?_
  refine jw_ls (ls' := [(0, .ref (x.2.2.2 p)), (1, .int a1), (2, .ref (x.2.2.2 o2)), (3, .ref (x.2.2.2 o3)), (4, .int a4)]) rfl ?_
  refine jw_aload_n (pc := 0) (j := 0) dX5_lookFrom_0 rfl rfl ?_
  refine jw_iload_n (pc := 1) (j := 1) dX5_lookFrom_1 rfl rfl ?_
  refine jw_callV (pc := 2) (m2 := mX5_stripsFrom) (As := [.int a1]) (st := []) dX5_lookFrom_2 a0.1 (by decide) rfl rfl gm_X5_stripsFrom ml_X5_77 rfl (Nat.le_of_ble_eq_true rfl) (JC.mono h ?_)
  clear h
  rintro M1 _ ⟨r1, rfl, h⟩
  refine jw_st (st' := [.int r1]) rfl ?_
  refine jw_istore (pc := 5) (ls' := [(5, .int r1), (0, .ref (x.2.2.2 p)), (1, .int a1), (2, .ref (x.2.2.2 o2)), (3, .ref (x.2.2.2 o3)), (4, .int a4)]) dX5_lookFrom_5 (by decide) rfl ?_
  refine jw_iconst (pc := 7) (v := 0) dX5_lookFrom_7 rfl ?_
  refine jw_istore (pc := 8) (ls' := [(6, .int (0 : Int32)), (5, .int r1), (0, .ref (x.2.2.2 p)), (1, .int a1), (2, .ref (x.2.2.2 o2)), (3, .ref (x.2.2.2 o3)), (4, .int a4)]) dX5_lookFrom_8 (by decide) rfl ?_
  exact jw_sub [2, 3, 4, 5, 6, 1, 0] rfl h
set_option maxRecDepth 20000 in
theorem b_X5_lookFrom_10 {x : jX} {tb : jT} {d : Nat} {M : jM} {P : jM → Prop} {p : Nat} {o2 : Nat} {o3 : Nat} {n3 : Nat} {l1 : Int32} {l4 : Int32} {l5 : Int32} {l6 : Int32} (s3 : js tb o3 = (20, n3)) (z3 : n3 < 2 ^ 31)
    (h : (l5 ≤ l6 → JW x tb mX5_lookFrom (d + 1) (jV P) 34 [(0, .ref (x.2.2.2 p)), (1, .int l1), (2, .ref (x.2.2.2 o2)), (3, .ref (x.2.2.2 o3)), (4, .int l4), (6, .int (0 : Int32))] [] M) ∧ (¬ l5 ≤ l6 → ∃ j1, j1 < n3 ∧ l4 + l6 = nI j1 ∧ (∀ M1, M1 = jrI M o3 (upd (M.1 o3) j1 (0 : Int32)) → JW x tb mX5_lookFrom (d + 1) (jV P) 10 [(0, .ref (x.2.2.2 p)), (1, .int l1), (2, .ref (x.2.2.2 o2)), (3, .ref (x.2.2.2 o3)), (4, .int l4), (5, .int l5), (6, .int (l6 + 1))] [] M1))) :
    JW x tb mX5_lookFrom (d + 1) (jV P) 10 [(0, .ref (x.2.2.2 p)), (1, .int l1), (2, .ref (x.2.2.2 o2)), (3, .ref (x.2.2.2 o3)), (4, .int l4), (5, .int l5), (6, .int l6)] [] M := by
  refine jw_iload (pc := 10) (j := 6) dX5_lookFrom_10 rfl ?_
  refine jw_iload (pc := 12) (j := 5) dX5_lookFrom_12 rfl ?_
  refine jw_icmp_ge (pc := 14) (tgt := 31) dX5_lookFrom_14 (by decide) (fun c => ?_) (fun c => ?_)
  · replace h := h.1 c
    refine jw_iconst (pc := 31) (v := 0) dX5_lookFrom_31 rfl ?_
    refine jw_istore (pc := 32) (ls' := [(6, .int (0 : Int32)), (0, .ref (x.2.2.2 p)), (1, .int l1), (2, .ref (x.2.2.2 o2)), (3, .ref (x.2.2.2 o3)), (4, .int l4), (5, .int l5)]) dX5_lookFrom_32 (by decide) rfl ?_
    exact jw_sub [1, 2, 3, 4, 5, 0] rfl h
  · replace h := h.2 c
    refine jw_aload_n (pc := 17) (j := 3) dX5_lookFrom_17 rfl rfl ?_
    refine jw_iload (pc := 18) (j := 4) dX5_lookFrom_18 rfl ?_
    refine jw_iload (pc := 20) (j := 6) dX5_lookFrom_20 rfl ?_
    refine jw_iadd (pc := 22) dX5_lookFrom_22 ?_
    refine jw_iconst (pc := 23) (v := 0) dX5_lookFrom_23 rfl ?_
    obtain ⟨j1, hj1, ej1, h⟩ := h
    refine jw_iast (pc := 24) (j := j1) dX5_lookFrom_24 s3 hj1 ej1 z3 ?_
    replace h := h _ rfl
    generalize jrI M o3 (upd (M.1 o3) j1 (0 : Int32)) = M1 at h ⊢
    refine jw_iinc (pc := 25) (j := 6) (u := l6 + 1) (ls' := [(6, .int (l6 + 1)), (0, .ref (x.2.2.2 p)), (1, .int l1), (2, .ref (x.2.2.2 o2)), (3, .ref (x.2.2.2 o3)), (4, .int l4), (5, .int l5)]) dX5_lookFrom_25 rfl rfl (by decide) rfl ?_
    refine jw_goto (pc := 28) (tgt := 10) dX5_lookFrom_28 (by decide) ?_
    exact jw_sub [1, 2, 3, 4, 5, 6, 0] rfl h
set_option maxRecDepth 20000 in
theorem b_X5_lookFrom_34 {x : jX} {tb : jT} {d : Nat} {M : jM} {P : jM → Prop} {p : Nat} {o2 : Nat} {n2 : Nat} {o3 : Nat} {n3 : Nat} {l1 : Int32} {l4 : Int32} {l6 : Int32} (a0 : aX5 tb p) (s2 : js tb o2 = (20, n2)) (z2 : n2 < 2 ^ 31) (s3 : js tb o3 = (20, n3)) (z3 : n3 < 2 ^ 31)
    (h : ((M.1 p 2) ≤ l6 → P M) ∧ (¬ (M.1 p 2) ≤ l6 → JC x tb mX5_stripAt d [.ref (x.2.2.2 p), .int l1, .int l6] M (jI fun M1 r1 => ∃ j1, j1 < n3 ∧ l4 + r1 = nI j1 ∧ (∃ j2, j2 < n2 ∧ l6 = nI j2 ∧ (JC x tb mJ9_max_7cf53 d [.int (M1.1 o3 j1), .int (M1.1 o2 j2)] M1 (jI fun M2 r2 => ∀ M3, M3 = jrI M2 o3 (upd (M2.1 o3) j1 r2) → JW x tb mX5_lookFrom (d + 1) (jV P) 34 [(0, .ref (x.2.2.2 p)), (1, .int l1), (2, .ref (x.2.2.2 o2)), (3, .ref (x.2.2.2 o3)), (4, .int l4), (6, .int (l6 + 1))] [] M3)))))) :
    JW x tb mX5_lookFrom (d + 1) (jV P) 34 [(0, .ref (x.2.2.2 p)), (1, .int l1), (2, .ref (x.2.2.2 o2)), (3, .ref (x.2.2.2 o3)), (4, .int l4), (6, .int l6)] [] M := by
  refine jw_iload (pc := 34) (j := 5) dX5_lookFrom_34 rfl ?_
  refine jw_aload_n (pc := 36) (j := 0) dX5_lookFrom_36 rfl rfl ?_
  refine jw_getI (pc := 37) dX5_lookFrom_37 a0.1 fl_X5_44 (by decide) rfl ?_
  refine jw_icmp_ge (pc := 40) (tgt := 76) dX5_lookFrom_40 (by decide) (fun c => ?_) (fun c => ?_)
  · replace h := h.1 c
    exact jw_vret (pc := 76) dX5_lookFrom_76 rfl ⟨rfl, h⟩
  · replace h := h.2 c
    refine jw_iload (pc := 43) (j := 4) dX5_lookFrom_43 rfl ?_
    refine jw_aload_n (pc := 45) (j := 0) dX5_lookFrom_45 rfl rfl ?_
    refine jw_iload_n (pc := 46) (j := 1) dX5_lookFrom_46 rfl rfl ?_
    refine jw_iload (pc := 47) (j := 5) dX5_lookFrom_47 rfl ?_
    refine jw_callV (pc := 49) (m2 := mX5_stripAt) (As := [.int l1, .int l6]) (st := [.int l4]) dX5_lookFrom_49 a0.1 (by decide) rfl rfl gm_X5_stripAt ml_X5_80 rfl (Nat.le_of_ble_eq_true rfl) (JC.mono h ?_)
    clear h
    rintro M1 _ ⟨r1, rfl, h⟩
    refine jw_st (st' := [.int r1, .int l4]) rfl ?_
    refine jw_iadd (pc := 52) dX5_lookFrom_52 ?_
    refine jw_istore (pc := 53) (ls' := [(7, .int (l4 + r1)), (0, .ref (x.2.2.2 p)), (1, .int l1), (2, .ref (x.2.2.2 o2)), (3, .ref (x.2.2.2 o3)), (4, .int l4), (6, .int l6)]) dX5_lookFrom_53 (by decide) rfl ?_
    refine jw_aload_n (pc := 55) (j := 4) dX5_lookFrom_55 rfl rfl ?_
    refine jw_iload (pc := 56) (j := 0) dX5_lookFrom_56 rfl ?_
    refine jw_aload_n (pc := 58) (j := 4) dX5_lookFrom_58 rfl rfl ?_
    refine jw_iload (pc := 59) (j := 0) dX5_lookFrom_59 rfl ?_
    obtain ⟨j1, hj1, ej1, h⟩ := h
    refine jw_iald (pc := 61) (j := j1) dX5_lookFrom_61 s3 hj1 ej1 z3 ?_
    refine jw_aload_n (pc := 62) (j := 3) dX5_lookFrom_62 rfl rfl ?_
    refine jw_iload (pc := 63) (j := 6) dX5_lookFrom_63 rfl ?_
    obtain ⟨j2, hj2, ej2, h⟩ := h
    refine jw_iald (pc := 65) (j := j2) dX5_lookFrom_65 s2 hj2 ej2 z2 ?_
    refine jw_callS (pc := 66) (m2 := mJ9_max_7cf53) (As := [.int (M1.1 o3 j1), .int (M1.1 o2 j2)]) (st := [.int (l4 + r1), .ref (x.2.2.2 o3)]) dX5_lookFrom_66 gm_J9_max_7cf53 ml_X5_84 rfl (Nat.le_of_ble_eq_true rfl) (JC.mono h ?_)
    clear h
    rintro M2 _ ⟨r2, rfl, h⟩
    refine jw_st (st' := [.int r2, .int (l4 + r1), .ref (x.2.2.2 o3)]) rfl ?_
    refine jw_iast (pc := 69) (j := j1) dX5_lookFrom_69 s3 hj1 ej1 z3 ?_
    replace h := h _ rfl
    generalize jrI M2 o3 (upd (M2.1 o3) j1 r2) = M3 at h ⊢
    refine jw_iinc (pc := 70) (j := 6) (u := l6 + 1) (ls' := [(6, .int (l6 + 1)), (7, .int (l4 + r1)), (0, .ref (x.2.2.2 p)), (1, .int l1), (2, .ref (x.2.2.2 o2)), (3, .ref (x.2.2.2 o3)), (4, .int l4)]) dX5_lookFrom_70 rfl rfl (by decide) rfl ?_
    refine jw_goto (pc := 73) (tgt := 34) dX5_lookFrom_73 (by decide) ?_
    exact jw_sub [2, 3, 4, 5, 6, 0] rfl h
set_option maxRecDepth 20000 in
theorem b_X5_lookFromAll {x : jX} {tb : jT} {d : Nat} {M : jM} {P : jM → Prop} {p : Nat} {o1 : Nat} {o2 : Nat} 
    (h : JW x tb mX5_lookFromAll (d + 1) (jV P) 2 [(0, .ref (x.2.2.2 p)), (1, .ref (x.2.2.2 o1)), (2, .ref (x.2.2.2 o2)), (3, .int (0 : Int32))] [] M) :
    JC x tb mX5_lookFromAll (d + 1) [.ref (x.2.2.2 p), .ref (x.2.2.2 o1), .ref (x.2.2.2 o2)] M (jV P) := by
  refine JC.of rfl (Nat.le_of_ble_eq_true rfl) ?_
  refine jw_ls (ls' := [(0, .ref (x.2.2.2 p)), (1, .ref (x.2.2.2 o1)), (2, .ref (x.2.2.2 o2))]) rfl ?_
  refine jw_iconst (pc := 0) (v := 0) dX5_lookFromAll_0 rfl ?_
  refine jw_istore_n (pc := 1) (ls' := [(3, .int (0 : Int32)), (0, .ref (x.2.2.2 p)), (1, .ref (x.2.2.2 o1)), (2, .ref (x.2.2.2 o2))]) dX5_lookFromAll_1 rfl (by decide) rfl ?_
  exact jw_sub [1, 2, 3, 0] rfl h
set_option maxRecDepth 20000 in
theorem b_X5_lookFromAll_2 {x : jX} {tb : jT} {d : Nat} {M : jM} {P : jM → Prop} {p : Nat} {o1 : Nat} {o2 : Nat} {l3 : Int32} (a0 : aX5 tb p)
    (h : ((M.1 p 3) ≤ l3 → P M) ∧ (¬ (M.1 p 3) ≤ l3 → ∃ j1, j1 < 6 ∧ l3 = nI j1 ∧ (JC x tb mX5_lookFrom d [.ref (x.2.2.2 p), .int (M.1 (p + 5) j1), .ref (x.2.2.2 o1), .ref (x.2.2.2 o2), .int (l3 * (9 : Int32))] M (jV fun M1 => JW x tb mX5_lookFromAll (d + 1) (jV P) 2 [(0, .ref (x.2.2.2 p)), (1, .ref (x.2.2.2 o1)), (2, .ref (x.2.2.2 o2)), (3, .int (l3 + 1))] [] M1)))) :
    JW x tb mX5_lookFromAll (d + 1) (jV P) 2 [(0, .ref (x.2.2.2 p)), (1, .ref (x.2.2.2 o1)), (2, .ref (x.2.2.2 o2)), (3, .int l3)] [] M := by
  refine jw_iload_n (pc := 2) (j := 3) dX5_lookFromAll_2 rfl rfl ?_
  refine jw_aload_n (pc := 3) (j := 0) dX5_lookFromAll_3 rfl rfl ?_
  refine jw_getI (pc := 4) dX5_lookFromAll_4 a0.1 fl_X5_47 (by decide) rfl ?_
  refine jw_icmp_ge (pc := 7) (tgt := 32) dX5_lookFromAll_7 (by decide) (fun c => ?_) (fun c => ?_)
  · replace h := h.1 c
    exact jw_vret (pc := 32) dX5_lookFromAll_32 rfl ⟨rfl, h⟩
  · replace h := h.2 c
    refine jw_aload_n (pc := 10) (j := 0) dX5_lookFromAll_10 rfl rfl ?_
    refine jw_aload_n (pc := 11) (j := 0) dX5_lookFromAll_11 rfl rfl ?_
    refine jw_getR (pc := 12) (r := p + 5) dX5_lookFromAll_12 a0.1 fl_X5_25 (by decide) rfl rfl ?_
    refine jw_iload_n (pc := 15) (j := 3) dX5_lookFromAll_15 rfl rfl ?_
    obtain ⟨j1, hj1, ej1, h⟩ := h
    refine jw_iald (pc := 16) (j := j1) dX5_lookFromAll_16 a0.2.2.2.2.2.1 hj1 ej1 (by decide) ?_
    refine jw_aload_n (pc := 17) (j := 1) dX5_lookFromAll_17 rfl rfl ?_
    refine jw_aload_n (pc := 18) (j := 2) dX5_lookFromAll_18 rfl rfl ?_
    refine jw_iload_n (pc := 19) (j := 3) dX5_lookFromAll_19 rfl rfl ?_
    refine jw_bipush (pc := 20) (v := 9) dX5_lookFromAll_20 rfl ?_
    refine jw_imul (pc := 22) dX5_lookFromAll_22 ?_
    refine jw_callV (pc := 23) (m2 := mX5_lookFrom) (As := [.int (M.1 (p + 5) j1), .ref (x.2.2.2 o1), .ref (x.2.2.2 o2), .int (l3 * (9 : Int32))]) (st := []) dX5_lookFromAll_23 a0.1 (by decide) rfl rfl gm_X5_lookFrom ml_X5_89 rfl (Nat.le_of_ble_eq_true rfl) (JC.mono h ?_)
    clear h
    rintro M1 _ ⟨rfl, h⟩
    refine jw_st (st' := []) rfl ?_
    refine jw_iinc (pc := 26) (j := 3) (u := l3 + 1) (ls' := [(3, .int (l3 + 1)), (0, .ref (x.2.2.2 p)), (1, .ref (x.2.2.2 o1)), (2, .ref (x.2.2.2 o2))]) dX5_lookFromAll_26 rfl rfl (by decide) rfl ?_
    refine jw_goto (pc := 29) (tgt := 2) dX5_lookFromAll_29 (by decide) ?_
    exact jw_sub [1, 2, 3, 0] rfl h
set_option maxRecDepth 20000 in
theorem b_X5_sightOf {x : jX} {tb : jT} {d : Nat} {M : jM} {P : jM → Int32 → Prop} {p : Nat} {a1 : Int32} {a2 : Int32} {o3 : Nat} 
    (h : JW x tb mX5_sightOf (d + 1) (jI P) 6 [(0, .ref (x.2.2.2 p)), (1, .int a1), (2, .int a2), (3, .ref (x.2.2.2 o3)), (4, .int (0 : Int32)), (5, .int (0 : Int32))] [] M) :
    JC x tb mX5_sightOf (d + 1) [.ref (x.2.2.2 p), .int a1, .int a2, .ref (x.2.2.2 o3)] M (jI P) := by
  refine JC.of rfl (Nat.le_of_ble_eq_true rfl) ?_
  refine jw_ls (ls' := [(0, .ref (x.2.2.2 p)), (1, .int a1), (2, .int a2), (3, .ref (x.2.2.2 o3))]) rfl ?_
  refine jw_iconst (pc := 0) (v := 0) dX5_sightOf_0 rfl ?_
  refine jw_istore (pc := 1) (ls' := [(4, .int (0 : Int32)), (0, .ref (x.2.2.2 p)), (1, .int a1), (2, .int a2), (3, .ref (x.2.2.2 o3))]) dX5_sightOf_1 (by decide) rfl ?_
  refine jw_iconst (pc := 3) (v := 0) dX5_sightOf_3 rfl ?_
  refine jw_istore (pc := 4) (ls' := [(5, .int (0 : Int32)), (4, .int (0 : Int32)), (0, .ref (x.2.2.2 p)), (1, .int a1), (2, .int a2), (3, .ref (x.2.2.2 o3))]) dX5_sightOf_4 (by decide) rfl ?_
  exact jw_sub [2, 3, 4, 5, 1, 0] rfl h
set_option maxRecDepth 20000 in
theorem b_X5_sightOf_6 {x : jX} {tb : jT} {d : Nat} {M : jM} {P : jM → Int32 → Prop} {p : Nat} {o3 : Nat} {n3 : Nat} {l1 : Int32} {l2 : Int32} {l4 : Int32} {l5 : Int32} (a0 : aX5 tb p) (s3 : js tb o3 = (20, n3)) (z3 : n3 < 2 ^ 31)
    (h : ((M.1 p 2) ≤ l5 → P M l4) ∧ (¬ (M.1 p 2) ≤ l5 → ∃ j1, j1 < 6 ∧ l1 = nI j1 ∧ (JC x tb mX5_stripAt d [.ref (x.2.2.2 p), .int (M.1 (p + 5) j1), .int l5] M (jI fun M1 r1 => (¬ r1 = l2 → JW x tb mX5_sightOf (d + 1) (jI P) 6 [(0, .ref (x.2.2.2 p)), (1, .int l1), (2, .int l2), (3, .ref (x.2.2.2 o3)), (4, .int l4), (5, .int (l5 + 1))] [] M1) ∧ (r1 = l2 → ∃ j2, j2 < n3 ∧ l5 = nI j2 ∧ (JC x tb mJ9_max_7cf53 d [.int l4, .int (M1.1 o3 j2)] M1 (jI fun M2 r2 => JW x tb mX5_sightOf (d + 1) (jI P) 6 [(0, .ref (x.2.2.2 p)), (1, .int l1), (2, .int l2), (3, .ref (x.2.2.2 o3)), (4, .int r2), (5, .int (l5 + 1))] [] M2))))))) :
    JW x tb mX5_sightOf (d + 1) (jI P) 6 [(0, .ref (x.2.2.2 p)), (1, .int l1), (2, .int l2), (3, .ref (x.2.2.2 o3)), (4, .int l4), (5, .int l5)] [] M := by
  refine jw_iload (pc := 6) (j := 5) dX5_sightOf_6 rfl ?_
  refine jw_aload_n (pc := 8) (j := 0) dX5_sightOf_8 rfl rfl ?_
  refine jw_getI (pc := 9) dX5_sightOf_9 a0.1 fl_X5_44 (by decide) rfl ?_
  refine jw_icmp_ge (pc := 12) (tgt := 48) dX5_sightOf_12 (by decide) (fun c => ?_) (fun c => ?_)
  · replace h := h.1 c
    refine jw_iload (pc := 48) (j := 4) dX5_sightOf_48 rfl ?_
    exact jw_iret (pc := 50) dX5_sightOf_50 rfl ⟨_, rfl, h⟩
  · replace h := h.2 c
    refine jw_aload_n (pc := 15) (j := 0) dX5_sightOf_15 rfl rfl ?_
    refine jw_aload_n (pc := 16) (j := 0) dX5_sightOf_16 rfl rfl ?_
    refine jw_getR (pc := 17) (r := p + 5) dX5_sightOf_17 a0.1 fl_X5_25 (by decide) rfl rfl ?_
    refine jw_iload_n (pc := 20) (j := 1) dX5_sightOf_20 rfl rfl ?_
    obtain ⟨j1, hj1, ej1, h⟩ := h
    refine jw_iald (pc := 21) (j := j1) dX5_sightOf_21 a0.2.2.2.2.2.1 hj1 ej1 (by decide) ?_
    refine jw_iload (pc := 22) (j := 5) dX5_sightOf_22 rfl ?_
    refine jw_callV (pc := 24) (m2 := mX5_stripAt) (As := [.int (M.1 (p + 5) j1), .int l5]) (st := []) dX5_sightOf_24 a0.1 (by decide) rfl rfl gm_X5_stripAt ml_X5_80 rfl (Nat.le_of_ble_eq_true rfl) (JC.mono h ?_)
    clear h
    rintro M1 _ ⟨r1, rfl, h⟩
    refine jw_st (st' := [.int r1]) rfl ?_
    refine jw_iload_n (pc := 27) (j := 2) dX5_sightOf_27 rfl rfl ?_
    refine jw_icmp_ne (pc := 28) (tgt := 42) dX5_sightOf_28 (by decide) (fun c => ?_) (fun c => ?_)
    · replace h := h.1 c
      refine jw_iinc (pc := 42) (j := 5) (u := l5 + 1) (ls' := [(5, .int (l5 + 1)), (0, .ref (x.2.2.2 p)), (1, .int l1), (2, .int l2), (3, .ref (x.2.2.2 o3)), (4, .int l4)]) dX5_sightOf_42 rfl rfl (by decide) rfl ?_
      refine jw_goto (pc := 45) (tgt := 6) dX5_sightOf_45 (by decide) ?_
      exact jw_sub [1, 2, 3, 4, 5, 0] rfl h
    · replace h := h.2 c
      refine jw_iload (pc := 31) (j := 4) dX5_sightOf_31 rfl ?_
      refine jw_aload_n (pc := 33) (j := 3) dX5_sightOf_33 rfl rfl ?_
      refine jw_iload (pc := 34) (j := 5) dX5_sightOf_34 rfl ?_
      obtain ⟨j2, hj2, ej2, h⟩ := h
      refine jw_iald (pc := 36) (j := j2) dX5_sightOf_36 s3 hj2 ej2 z3 ?_
      refine jw_callS (pc := 37) (m2 := mJ9_max_7cf53) (As := [.int l4, .int (M1.1 o3 j2)]) (st := []) dX5_sightOf_37 gm_J9_max_7cf53 ml_X5_84 rfl (Nat.le_of_ble_eq_true rfl) (JC.mono h ?_)
      clear h
      rintro M2 _ ⟨r2, rfl, h⟩
      refine jw_st (st' := [.int r2]) rfl ?_
      refine jw_istore (pc := 40) (ls' := [(4, .int r2), (0, .ref (x.2.2.2 p)), (1, .int l1), (2, .int l2), (3, .ref (x.2.2.2 o3)), (5, .int l5)]) dX5_sightOf_40 (by decide) rfl ?_
      refine jw_iinc (pc := 42) (j := 5) (u := l5 + 1) (ls' := [(5, .int (l5 + 1)), (4, .int r2), (0, .ref (x.2.2.2 p)), (1, .int l1), (2, .int l2), (3, .ref (x.2.2.2 o3))]) dX5_sightOf_42 rfl rfl (by decide) rfl ?_
      refine jw_goto (pc := 45) (tgt := 6) dX5_sightOf_45 (by decide) ?_
      exact jw_sub [2, 3, 4, 5, 1, 0] rfl h
set_option maxRecDepth 20000 in
theorem b_X5_lowestSight {x : jX} {tb : jT} {d : Nat} {M : jM} {P : jM → Int32 → Prop} {p : Nat} {o1 : Nat} 
    (h : JW x tb mX5_lowestSight (d + 1) (jI P) 5 [(0, .ref (x.2.2.2 p)), (1, .ref (x.2.2.2 o1)), (2, .int (99 : Int32)), (3, .int (0 : Int32))] [] M) :
    JC x tb mX5_lowestSight (d + 1) [.ref (x.2.2.2 p), .ref (x.2.2.2 o1)] M (jI P) := by
  refine JC.of rfl (Nat.le_of_ble_eq_true rfl) ?_
  refine jw_ls (ls' := [(0, .ref (x.2.2.2 p)), (1, .ref (x.2.2.2 o1))]) rfl ?_
  refine jw_bipush (pc := 0) (v := 99) dX5_lowestSight_0 rfl ?_
  refine jw_istore_n (pc := 2) (ls' := [(2, .int (99 : Int32)), (0, .ref (x.2.2.2 p)), (1, .ref (x.2.2.2 o1))]) dX5_lowestSight_2 rfl (by decide) rfl ?_
  refine jw_iconst (pc := 3) (v := 0) dX5_lowestSight_3 rfl ?_
  refine jw_istore_n (pc := 4) (ls' := [(3, .int (0 : Int32)), (2, .int (99 : Int32)), (0, .ref (x.2.2.2 p)), (1, .ref (x.2.2.2 o1))]) dX5_lowestSight_4 rfl (by decide) rfl ?_
  exact jw_sub [2, 3, 1, 0] rfl h
set_option maxRecDepth 20000 in
theorem b_X5_lowestSight_5 {x : jX} {tb : jT} {d : Nat} {M : jM} {P : jM → Int32 → Prop} {p : Nat} {o1 : Nat} {l2 : Int32} {l3 : Int32} (a0 : aX5 tb p)
    (h : ((M.1 p 3) ≤ l3 → P M l2) ∧ (¬ (M.1 p 3) ≤ l3 → ∃ j1, j1 < 6 ∧ l3 = nI j1 ∧ (JC x tb mX5_lookFrom d [.ref (x.2.2.2 p), .int (M.1 (p + 5) j1), .ref (x.2.2.2 o1), .ref (x.2.2.2 (p + 8)), .int (0 : Int32)] M (jV fun M1 => JW x tb mX5_lowestSight (d + 1) (jI P) 32 [(0, .ref (x.2.2.2 p)), (1, .ref (x.2.2.2 o1)), (2, .int l2), (3, .int l3), (4, .int (0 : Int32))] [] M1)))) :
    JW x tb mX5_lowestSight (d + 1) (jI P) 5 [(0, .ref (x.2.2.2 p)), (1, .ref (x.2.2.2 o1)), (2, .int l2), (3, .int l3)] [] M := by
  refine jw_iload_n (pc := 5) (j := 3) dX5_lowestSight_5 rfl rfl ?_
  refine jw_aload_n (pc := 6) (j := 0) dX5_lowestSight_6 rfl rfl ?_
  refine jw_getI (pc := 7) dX5_lowestSight_7 a0.1 fl_X5_47 (by decide) rfl ?_
  refine jw_icmp_ge (pc := 10) (tgt := 66) dX5_lowestSight_10 (by decide) (fun c => ?_) (fun c => ?_)
  · replace h := h.1 c
    refine jw_iload_n (pc := 66) (j := 2) dX5_lowestSight_66 rfl rfl ?_
    exact jw_iret (pc := 67) dX5_lowestSight_67 rfl ⟨_, rfl, h⟩
  · replace h := h.2 c
    refine jw_aload_n (pc := 13) (j := 0) dX5_lowestSight_13 rfl rfl ?_
    refine jw_aload_n (pc := 14) (j := 0) dX5_lowestSight_14 rfl rfl ?_
    refine jw_getR (pc := 15) (r := p + 5) dX5_lowestSight_15 a0.1 fl_X5_25 (by decide) rfl rfl ?_
    refine jw_iload_n (pc := 18) (j := 3) dX5_lowestSight_18 rfl rfl ?_
    obtain ⟨j1, hj1, ej1, h⟩ := h
    refine jw_iald (pc := 19) (j := j1) dX5_lowestSight_19 a0.2.2.2.2.2.1 hj1 ej1 (by decide) ?_
    refine jw_aload_n (pc := 20) (j := 1) dX5_lowestSight_20 rfl rfl ?_
    refine jw_aload_n (pc := 21) (j := 0) dX5_lowestSight_21 rfl rfl ?_
    refine jw_getR (pc := 22) (r := p + 8) dX5_lowestSight_22 a0.1 fl_X5_34 (by decide) rfl rfl ?_
    refine jw_iconst (pc := 25) (v := 0) dX5_lowestSight_25 rfl ?_
    refine jw_callV (pc := 26) (m2 := mX5_lookFrom) (As := [.int (M.1 (p + 5) j1), .ref (x.2.2.2 o1), .ref (x.2.2.2 (p + 8)), .int (0 : Int32)]) (st := []) dX5_lowestSight_26 a0.1 (by decide) rfl rfl gm_X5_lookFrom ml_X5_89 rfl (Nat.le_of_ble_eq_true rfl) (JC.mono h ?_)
    clear h
    rintro M1 _ ⟨rfl, h⟩
    refine jw_st (st' := []) rfl ?_
    refine jw_iconst (pc := 29) (v := 0) dX5_lowestSight_29 rfl ?_
    refine jw_istore (pc := 30) (ls' := [(4, .int (0 : Int32)), (0, .ref (x.2.2.2 p)), (1, .ref (x.2.2.2 o1)), (2, .int l2), (3, .int l3)]) dX5_lowestSight_30 (by decide) rfl ?_
    exact jw_sub [1, 2, 3, 4, 0] rfl h
set_option maxRecDepth 20000 in
theorem b_X5_lowestSight_32 {x : jX} {tb : jT} {d : Nat} {M : jM} {P : jM → Int32 → Prop} {p : Nat} {o1 : Nat} {l2 : Int32} {l3 : Int32} {l4 : Int32} (a0 : aX5 tb p)
    (h : JC x tb mX5_stripsOf d [.ref (x.2.2.2 p), .int l3] M (jI fun M1 r1 => (r1 ≤ l4 → JW x tb mX5_lowestSight (d + 1) (jI P) 5 [(0, .ref (x.2.2.2 p)), (1, .ref (x.2.2.2 o1)), (2, .int l2), (3, .int (l3 + 1))] [] M1) ∧ (¬ r1 ≤ l4 → ∃ j1, j1 < 9 ∧ l4 = nI j1 ∧ (JC x tb mJ9_min_7cf53 d [.int l2, .int (M1.1 (p + 8) j1)] M1 (jI fun M2 r2 => JW x tb mX5_lowestSight (d + 1) (jI P) 32 [(0, .ref (x.2.2.2 p)), (1, .ref (x.2.2.2 o1)), (2, .int r2), (3, .int l3), (4, .int (l4 + 1))] [] M2))))) :
    JW x tb mX5_lowestSight (d + 1) (jI P) 32 [(0, .ref (x.2.2.2 p)), (1, .ref (x.2.2.2 o1)), (2, .int l2), (3, .int l3), (4, .int l4)] [] M := by
  refine jw_iload (pc := 32) (j := 4) dX5_lowestSight_32 rfl ?_
  refine jw_aload_n (pc := 34) (j := 0) dX5_lowestSight_34 rfl rfl ?_
  refine jw_iload_n (pc := 35) (j := 3) dX5_lowestSight_35 rfl rfl ?_
  refine jw_callV (pc := 36) (m2 := mX5_stripsOf) (As := [.int l3]) (st := [.int l4]) dX5_lowestSight_36 a0.1 (by decide) rfl rfl gm_X5_stripsOf ml_X5_73 rfl (Nat.le_of_ble_eq_true rfl) (JC.mono h ?_)
  clear h
  rintro M1 _ ⟨r1, rfl, h⟩
  refine jw_st (st' := [.int r1, .int l4]) rfl ?_
  refine jw_icmp_ge (pc := 39) (tgt := 60) dX5_lowestSight_39 (by decide) (fun c => ?_) (fun c => ?_)
  · replace h := h.1 c
    refine jw_iinc (pc := 60) (j := 3) (u := l3 + 1) (ls' := [(3, .int (l3 + 1)), (0, .ref (x.2.2.2 p)), (1, .ref (x.2.2.2 o1)), (2, .int l2), (4, .int l4)]) dX5_lowestSight_60 rfl rfl (by decide) rfl ?_
    refine jw_goto (pc := 63) (tgt := 5) dX5_lowestSight_63 (by decide) ?_
    exact jw_sub [1, 2, 3, 0] rfl h
  · replace h := h.2 c
    refine jw_iload_n (pc := 42) (j := 2) dX5_lowestSight_42 rfl rfl ?_
    refine jw_aload_n (pc := 43) (j := 0) dX5_lowestSight_43 rfl rfl ?_
    refine jw_getR (pc := 44) (r := p + 8) dX5_lowestSight_44 a0.1 fl_X5_34 (by decide) rfl rfl ?_
    refine jw_iload (pc := 47) (j := 4) dX5_lowestSight_47 rfl ?_
    obtain ⟨j1, hj1, ej1, h⟩ := h
    refine jw_iald (pc := 49) (j := j1) dX5_lowestSight_49 a0.2.2.2.2.2.2.2.2 hj1 ej1 (by decide) ?_
    refine jw_callS (pc := 50) (m2 := mJ9_min_7cf53) (As := [.int l2, .int (M1.1 (p + 8) j1)]) (st := []) dX5_lowestSight_50 gm_J9_min_7cf53 ml_X5_93 rfl (Nat.le_of_ble_eq_true rfl) (JC.mono h ?_)
    clear h
    rintro M2 _ ⟨r2, rfl, h⟩
    refine jw_st (st' := [.int r2]) rfl ?_
    refine jw_istore_n (pc := 53) (ls' := [(2, .int r2), (0, .ref (x.2.2.2 p)), (1, .ref (x.2.2.2 o1)), (3, .int l3), (4, .int l4)]) dX5_lowestSight_53 rfl (by decide) rfl ?_
    refine jw_iinc (pc := 54) (j := 4) (u := l4 + 1) (ls' := [(4, .int (l4 + 1)), (2, .int r2), (0, .ref (x.2.2.2 p)), (1, .ref (x.2.2.2 o1)), (3, .int l3)]) dX5_lowestSight_54 rfl rfl (by decide) rfl ?_
    refine jw_goto (pc := 57) (tgt := 32) dX5_lowestSight_57 (by decide) ?_
    exact jw_sub [2, 3, 1, 4, 0] rfl h
set_option maxRecDepth 20000 in
theorem b_X5_firstUnlikeStrip {x : jX} {tb : jT} {d : Nat} {M : jM} {P : jM → Int32 → Prop} {p : Nat} {a1 : Int32} {o2 : Nat} (a0 : aX5 tb p)
    (h : ∃ j1, j1 < 6 ∧ a1 = nI j1 ∧ (JC x tb mX5_lookFrom d [.ref (x.2.2.2 p), .int (M.1 (p + 5) j1), .ref (x.2.2.2 o2), .ref (x.2.2.2 (p + 8)), .int (0 : Int32)] M (jV fun M1 => JW x tb mX5_firstUnlikeStrip (d + 1) (jI P) 18 [(0, .ref (x.2.2.2 p)), (1, .int a1), (3, .int (0 : Int32))] [] M1))) :
    JC x tb mX5_firstUnlikeStrip (d + 1) [.ref (x.2.2.2 p), .int a1, .ref (x.2.2.2 o2)] M (jI P) := by
  refine JC.of rfl (Nat.le_of_ble_eq_true rfl) ?_
  refine jw_ls (ls' := [(0, .ref (x.2.2.2 p)), (1, .int a1), (2, .ref (x.2.2.2 o2))]) rfl ?_
  refine jw_aload_n (pc := 0) (j := 0) dX5_firstUnlikeStrip_0 rfl rfl ?_
  refine jw_aload_n (pc := 1) (j := 0) dX5_firstUnlikeStrip_1 rfl rfl ?_
  refine jw_getR (pc := 2) (r := p + 5) dX5_firstUnlikeStrip_2 a0.1 fl_X5_25 (by decide) rfl rfl ?_
  refine jw_iload_n (pc := 5) (j := 1) dX5_firstUnlikeStrip_5 rfl rfl ?_
  obtain ⟨j1, hj1, ej1, h⟩ := h
  refine jw_iald (pc := 6) (j := j1) dX5_firstUnlikeStrip_6 a0.2.2.2.2.2.1 hj1 ej1 (by decide) ?_
  refine jw_aload_n (pc := 7) (j := 2) dX5_firstUnlikeStrip_7 rfl rfl ?_
  refine jw_aload_n (pc := 8) (j := 0) dX5_firstUnlikeStrip_8 rfl rfl ?_
  refine jw_getR (pc := 9) (r := p + 8) dX5_firstUnlikeStrip_9 a0.1 fl_X5_34 (by decide) rfl rfl ?_
  refine jw_iconst (pc := 12) (v := 0) dX5_firstUnlikeStrip_12 rfl ?_
  refine jw_callV (pc := 13) (m2 := mX5_lookFrom) (As := [.int (M.1 (p + 5) j1), .ref (x.2.2.2 o2), .ref (x.2.2.2 (p + 8)), .int (0 : Int32)]) (st := []) dX5_firstUnlikeStrip_13 a0.1 (by decide) rfl rfl gm_X5_lookFrom ml_X5_89 rfl (Nat.le_of_ble_eq_true rfl) (JC.mono h ?_)
  clear h
  rintro M1 _ ⟨rfl, h⟩
  refine jw_st (st' := []) rfl ?_
  refine jw_iconst (pc := 16) (v := 0) dX5_firstUnlikeStrip_16 rfl ?_
  refine jw_istore_n (pc := 17) (ls' := [(3, .int (0 : Int32)), (0, .ref (x.2.2.2 p)), (1, .int a1), (2, .ref (x.2.2.2 o2))]) dX5_firstUnlikeStrip_17 rfl (by decide) rfl ?_
  exact jw_sub [1, 2, 0] rfl h
set_option maxRecDepth 20000 in
theorem b_X5_firstUnlikeStrip_18 {x : jX} {tb : jT} {d : Nat} {M : jM} {P : jM → Int32 → Prop} {p : Nat} {l1 : Int32} {l3 : Int32} (a0 : aX5 tb p)
    (h : JC x tb mX5_stripsOf d [.ref (x.2.2.2 p), .int l1] M (jI fun M1 r1 => (r1 ≤ l3 → P M1 (-1 : Int32)) ∧ (¬ r1 ≤ l3 → ∃ j1, j1 < 9 ∧ l3 = nI j1 ∧ (∃ j2, j2 < 54 ∧ (l1 * (9 : Int32)) + l3 = nI j2 ∧ (((M1.1 (p + 8) j1) = (M1.1 (p + 6) j2) → JW x tb mX5_firstUnlikeStrip (d + 1) (jI P) 18 [(0, .ref (x.2.2.2 p)), (1, .int l1), (3, .int (l3 + 1))] [] M1) ∧ (¬ (M1.1 (p + 8) j1) = (M1.1 (p + 6) j2) → P M1 l3)))))) :
    JW x tb mX5_firstUnlikeStrip (d + 1) (jI P) 18 [(0, .ref (x.2.2.2 p)), (1, .int l1), (3, .int l3)] [] M := by
  refine jw_iload_n (pc := 18) (j := 2) dX5_firstUnlikeStrip_18 rfl rfl ?_
  refine jw_aload_n (pc := 19) (j := 0) dX5_firstUnlikeStrip_19 rfl rfl ?_
  refine jw_iload_n (pc := 20) (j := 1) dX5_firstUnlikeStrip_20 rfl rfl ?_
  refine jw_callV (pc := 21) (m2 := mX5_stripsOf) (As := [.int l1]) (st := [.int l3]) dX5_firstUnlikeStrip_21 a0.1 (by decide) rfl rfl gm_X5_stripsOf ml_X5_73 rfl (Nat.le_of_ble_eq_true rfl) (JC.mono h ?_)
  clear h
  rintro M1 _ ⟨r1, rfl, h⟩
  refine jw_st (st' := [.int r1, .int l3]) rfl ?_
  refine jw_icmp_ge (pc := 24) (tgt := 55) dX5_firstUnlikeStrip_24 (by decide) (fun c => ?_) (fun c => ?_)
  · replace h := h.1 c
    refine jw_iconst (pc := 55) (v := (-1)) dX5_firstUnlikeStrip_55 rfl ?_
    exact jw_iret (pc := 56) dX5_firstUnlikeStrip_56 rfl ⟨_, rfl, h⟩
  · replace h := h.2 c
    refine jw_aload_n (pc := 27) (j := 0) dX5_firstUnlikeStrip_27 rfl rfl ?_
    refine jw_getR (pc := 28) (r := p + 8) dX5_firstUnlikeStrip_28 a0.1 fl_X5_34 (by decide) rfl rfl ?_
    refine jw_iload_n (pc := 31) (j := 2) dX5_firstUnlikeStrip_31 rfl rfl ?_
    obtain ⟨j1, hj1, ej1, h⟩ := h
    refine jw_iald (pc := 32) (j := j1) dX5_firstUnlikeStrip_32 a0.2.2.2.2.2.2.2.2 hj1 ej1 (by decide) ?_
    refine jw_aload_n (pc := 33) (j := 0) dX5_firstUnlikeStrip_33 rfl rfl ?_
    refine jw_getR (pc := 34) (r := p + 6) dX5_firstUnlikeStrip_34 a0.1 fl_X5_28 (by decide) rfl rfl ?_
    refine jw_iload_n (pc := 37) (j := 1) dX5_firstUnlikeStrip_37 rfl rfl ?_
    refine jw_bipush (pc := 38) (v := 9) dX5_firstUnlikeStrip_38 rfl ?_
    refine jw_imul (pc := 40) dX5_firstUnlikeStrip_40 ?_
    refine jw_iload_n (pc := 41) (j := 2) dX5_firstUnlikeStrip_41 rfl rfl ?_
    refine jw_iadd (pc := 42) dX5_firstUnlikeStrip_42 ?_
    obtain ⟨j2, hj2, ej2, h⟩ := h
    refine jw_iald (pc := 43) (j := j2) dX5_firstUnlikeStrip_43 a0.2.2.2.2.2.2.1 hj2 ej2 (by decide) ?_
    refine jw_icmp_eq (pc := 44) (tgt := 49) dX5_firstUnlikeStrip_44 (by decide) (fun c => ?_) (fun c => ?_)
    · replace h := h.1 c
      refine jw_iinc (pc := 49) (j := 2) (u := l3 + 1) (ls' := [(3, .int (l3 + 1)), (0, .ref (x.2.2.2 p)), (1, .int l1)]) dX5_firstUnlikeStrip_49 rfl rfl (by decide) rfl ?_
      refine jw_goto (pc := 52) (tgt := 18) dX5_firstUnlikeStrip_52 (by decide) ?_
      exact jw_sub [1, 2, 0] rfl h
    · replace h := h.2 c
      refine jw_iload_n (pc := 47) (j := 2) dX5_firstUnlikeStrip_47 rfl rfl ?_
      exact jw_iret (pc := 48) dX5_firstUnlikeStrip_48 rfl ⟨_, rfl, h⟩
set_option maxRecDepth 20000 in
theorem b_X5_firstUnlikeVillage {x : jX} {tb : jT} {d : Nat} {M : jM} {P : jM → Int32 → Prop} {p : Nat} {o1 : Nat} 
    (h : JW x tb mX5_firstUnlikeVillage (d + 1) (jI P) 2 [(0, .ref (x.2.2.2 p)), (1, .ref (x.2.2.2 o1)), (2, .int (0 : Int32))] [] M) :
    JC x tb mX5_firstUnlikeVillage (d + 1) [.ref (x.2.2.2 p), .ref (x.2.2.2 o1)] M (jI P) := by
  refine JC.of rfl (Nat.le_of_ble_eq_true rfl) ?_
  refine jw_ls (ls' := [(0, .ref (x.2.2.2 p)), (1, .ref (x.2.2.2 o1))]) rfl ?_
  refine jw_iconst (pc := 0) (v := 0) dX5_firstUnlikeVillage_0 rfl ?_
  refine jw_istore_n (pc := 1) (ls' := [(2, .int (0 : Int32)), (0, .ref (x.2.2.2 p)), (1, .ref (x.2.2.2 o1))]) dX5_firstUnlikeVillage_1 rfl (by decide) rfl ?_
  exact jw_sub [1, 2, 0] rfl h
set_option maxRecDepth 20000 in
theorem b_X5_firstUnlikeVillage_2 {x : jX} {tb : jT} {d : Nat} {M : jM} {P : jM → Int32 → Prop} {p : Nat} {o1 : Nat} {l2 : Int32} (a0 : aX5 tb p)
    (h : ((M.1 p 3) ≤ l2 → P M (-1 : Int32)) ∧ (¬ (M.1 p 3) ≤ l2 → JC x tb mX5_hasSky d [.ref (x.2.2.2 p), .int l2] M (jZ fun M1 b1 => (b1 = false → JW x tb mX5_firstUnlikeVillage (d + 1) (jI P) 2 [(0, .ref (x.2.2.2 p)), (1, .ref (x.2.2.2 o1)), (2, .int (l2 + 1))] [] M1) ∧ (b1 = true → JC x tb mX5_firstUnlikeStrip d [.ref (x.2.2.2 p), .int l2, .ref (x.2.2.2 o1)] M1 (jI fun M2 r1 => (r1 = (-1 : Int32) → JW x tb mX5_firstUnlikeVillage (d + 1) (jI P) 2 [(0, .ref (x.2.2.2 p)), (1, .ref (x.2.2.2 o1)), (2, .int (l2 + 1))] [] M2) ∧ (¬ r1 = (-1 : Int32) → P M2 l2)))))) :
    JW x tb mX5_firstUnlikeVillage (d + 1) (jI P) 2 [(0, .ref (x.2.2.2 p)), (1, .ref (x.2.2.2 o1)), (2, .int l2)] [] M := by
  refine jw_iload_n (pc := 2) (j := 2) dX5_firstUnlikeVillage_2 rfl rfl ?_
  refine jw_aload_n (pc := 3) (j := 0) dX5_firstUnlikeVillage_3 rfl rfl ?_
  refine jw_getI (pc := 4) dX5_firstUnlikeVillage_4 a0.1 fl_X5_47 (by decide) rfl ?_
  refine jw_icmp_ge (pc := 7) (tgt := 36) dX5_firstUnlikeVillage_7 (by decide) (fun c => ?_) (fun c => ?_)
  · replace h := h.1 c
    refine jw_iconst (pc := 36) (v := (-1)) dX5_firstUnlikeVillage_36 rfl ?_
    exact jw_iret (pc := 37) dX5_firstUnlikeVillage_37 rfl ⟨_, rfl, h⟩
  · replace h := h.2 c
    refine jw_aload_n (pc := 10) (j := 0) dX5_firstUnlikeVillage_10 rfl rfl ?_
    refine jw_iload_n (pc := 11) (j := 2) dX5_firstUnlikeVillage_11 rfl rfl ?_
    refine jw_callV (pc := 12) (m2 := mX5_hasSky) (As := [.int l2]) (st := []) dX5_firstUnlikeVillage_12 a0.1 (by decide) rfl rfl gm_X5_hasSky ml_X5_96 rfl (Nat.le_of_ble_eq_true rfl) (JC.mono h ?_)
    clear h
    rintro M1 _ ⟨b1, rfl, h⟩
    refine jw_st (st' := [.int (jb b1)]) rfl ?_
    refine jw_if_eq (pc := 15) (tgt := 30) dX5_firstUnlikeVillage_15 (by decide) (fun c => ?_) (fun c => ?_)
    · replace h := h.1 ((jb_0 _).mp c)
      refine jw_iinc (pc := 30) (j := 2) (u := l2 + 1) (ls' := [(2, .int (l2 + 1)), (0, .ref (x.2.2.2 p)), (1, .ref (x.2.2.2 o1))]) dX5_firstUnlikeVillage_30 rfl rfl (by decide) rfl ?_
      refine jw_goto (pc := 33) (tgt := 2) dX5_firstUnlikeVillage_33 (by decide) ?_
      exact jw_sub [1, 2, 0] rfl h
    · replace h := h.2 (jb_ne c)
      refine jw_aload_n (pc := 18) (j := 0) dX5_firstUnlikeVillage_18 rfl rfl ?_
      refine jw_iload_n (pc := 19) (j := 2) dX5_firstUnlikeVillage_19 rfl rfl ?_
      refine jw_aload_n (pc := 20) (j := 1) dX5_firstUnlikeVillage_20 rfl rfl ?_
      refine jw_callV (pc := 21) (m2 := mX5_firstUnlikeStrip) (As := [.int l2, .ref (x.2.2.2 o1)]) (st := []) dX5_firstUnlikeVillage_21 a0.1 (by decide) rfl rfl gm_X5_firstUnlikeStrip ml_X5_99 rfl (Nat.le_of_ble_eq_true rfl) (JC.mono h ?_)
      clear h
      rintro M2 _ ⟨r1, rfl, h⟩
      refine jw_st (st' := [.int r1]) rfl ?_
      refine jw_iconst (pc := 24) (v := (-1)) dX5_firstUnlikeVillage_24 rfl ?_
      refine jw_icmp_eq (pc := 25) (tgt := 30) dX5_firstUnlikeVillage_25 (by decide) (fun c => ?_) (fun c => ?_)
      · replace h := h.1 c
        refine jw_iinc (pc := 30) (j := 2) (u := l2 + 1) (ls' := [(2, .int (l2 + 1)), (0, .ref (x.2.2.2 p)), (1, .ref (x.2.2.2 o1))]) dX5_firstUnlikeVillage_30 rfl rfl (by decide) rfl ?_
        refine jw_goto (pc := 33) (tgt := 2) dX5_firstUnlikeVillage_33 (by decide) ?_
        exact jw_sub [1, 2, 0] rfl h
      · replace h := h.2 c
        refine jw_iload_n (pc := 28) (j := 2) dX5_firstUnlikeVillage_28 rfl rfl ?_
        exact jw_iret (pc := 29) dX5_firstUnlikeVillage_29 rfl ⟨_, rfl, h⟩
set_option maxRecDepth 20000 in
theorem b_X5_stoneOf {x : jX} {tb : jT} {d : Nat} {M : jM} {P : jM → Int32 → Prop} {p : Nat} {o1 : Nat} 
    (h : JW x tb mX5_stoneOf (d + 1) (jI P) 4 [(0, .ref (x.2.2.2 p)), (1, .ref (x.2.2.2 o1)), (2, .int (0 : Int32)), (3, .int (0 : Int32))] [] M) :
    JC x tb mX5_stoneOf (d + 1) [.ref (x.2.2.2 p), .ref (x.2.2.2 o1)] M (jI P) := by
  refine JC.of rfl (Nat.le_of_ble_eq_true rfl) ?_
  refine jw_ls (ls' := [(0, .ref (x.2.2.2 p)), (1, .ref (x.2.2.2 o1))]) rfl ?_
  refine jw_iconst (pc := 0) (v := 0) dX5_stoneOf_0 rfl ?_
  refine jw_istore_n (pc := 1) (ls' := [(2, .int (0 : Int32)), (0, .ref (x.2.2.2 p)), (1, .ref (x.2.2.2 o1))]) dX5_stoneOf_1 rfl (by decide) rfl ?_
  refine jw_iconst (pc := 2) (v := 0) dX5_stoneOf_2 rfl ?_
  refine jw_istore_n (pc := 3) (ls' := [(3, .int (0 : Int32)), (2, .int (0 : Int32)), (0, .ref (x.2.2.2 p)), (1, .ref (x.2.2.2 o1))]) dX5_stoneOf_3 rfl (by decide) rfl ?_
  exact jw_sub [2, 3, 1, 0] rfl h
set_option maxRecDepth 20000 in
theorem b_X5_stoneOf_4 {x : jX} {tb : jT} {d : Nat} {M : jM} {P : jM → Int32 → Prop} {p : Nat} {o1 : Nat} {n1 : Nat} {l2 : Int32} {l3 : Int32} (a0 : aX5 tb p) (s1 : js tb o1 = (20, n1)) (z1 : n1 < 2 ^ 31)
    (h : ((M.1 p 2) ≤ l3 → P M l2) ∧ (¬ (M.1 p 2) ≤ l3 → ∃ j1, j1 < n1 ∧ l3 = nI j1 ∧ (j1 < 25 ∧ (JC x tb mJ9_max_7cf53 d [.int (0 : Int32), .int ((M.1 o1 j1) - (M.1 (p + 2) j1))] M (jI fun M1 r1 => JW x tb mX5_stoneOf (d + 1) (jI P) 4 [(0, .ref (x.2.2.2 p)), (1, .ref (x.2.2.2 o1)), (2, .int (l2 + (r1 * (M1.1 (p + 3) j1)))), (3, .int (l3 + 1))] [] M1))))) :
    JW x tb mX5_stoneOf (d + 1) (jI P) 4 [(0, .ref (x.2.2.2 p)), (1, .ref (x.2.2.2 o1)), (2, .int l2), (3, .int l3)] [] M := by
  refine jw_iload_n (pc := 4) (j := 3) dX5_stoneOf_4 rfl rfl ?_
  refine jw_aload_n (pc := 5) (j := 0) dX5_stoneOf_5 rfl rfl ?_
  refine jw_getI (pc := 6) dX5_stoneOf_6 a0.1 fl_X5_44 (by decide) rfl ?_
  refine jw_icmp_ge (pc := 9) (tgt := 42) dX5_stoneOf_9 (by decide) (fun c => ?_) (fun c => ?_)
  · replace h := h.1 c
    refine jw_iload_n (pc := 42) (j := 2) dX5_stoneOf_42 rfl rfl ?_
    exact jw_iret (pc := 43) dX5_stoneOf_43 rfl ⟨_, rfl, h⟩
  · replace h := h.2 c
    refine jw_iload_n (pc := 12) (j := 2) dX5_stoneOf_12 rfl rfl ?_
    refine jw_iconst (pc := 13) (v := 0) dX5_stoneOf_13 rfl ?_
    refine jw_aload_n (pc := 14) (j := 1) dX5_stoneOf_14 rfl rfl ?_
    refine jw_iload_n (pc := 15) (j := 3) dX5_stoneOf_15 rfl rfl ?_
    obtain ⟨j1, hj1, ej1, h⟩ := h
    refine jw_iald (pc := 16) (j := j1) dX5_stoneOf_16 s1 hj1 ej1 z1 ?_
    refine jw_aload_n (pc := 17) (j := 0) dX5_stoneOf_17 rfl rfl ?_
    refine jw_getR (pc := 18) (r := p + 2) dX5_stoneOf_18 a0.1 fl_X5_15 (by decide) rfl rfl ?_
    refine jw_iload_n (pc := 21) (j := 3) dX5_stoneOf_21 rfl rfl ?_
    obtain ⟨hj1, h⟩ := h
    refine jw_iald (pc := 22) (j := j1) dX5_stoneOf_22 a0.2.2.1 hj1 ej1 (by decide) ?_
    refine jw_isub (pc := 23) dX5_stoneOf_23 ?_
    refine jw_callS (pc := 24) (m2 := mJ9_max_7cf53) (As := [.int (0 : Int32), .int ((M.1 o1 j1) - (M.1 (p + 2) j1))]) (st := [.int l2]) dX5_stoneOf_24 gm_J9_max_7cf53 ml_X5_84 rfl (Nat.le_of_ble_eq_true rfl) (JC.mono h ?_)
    clear h
    rintro M1 _ ⟨r1, rfl, h⟩
    refine jw_st (st' := [.int r1, .int l2]) rfl ?_
    refine jw_aload_n (pc := 27) (j := 0) dX5_stoneOf_27 rfl rfl ?_
    refine jw_getR (pc := 28) (r := p + 3) dX5_stoneOf_28 a0.1 fl_X5_18 (by decide) rfl rfl ?_
    refine jw_iload_n (pc := 31) (j := 3) dX5_stoneOf_31 rfl rfl ?_
    refine jw_iald (pc := 32) (j := j1) dX5_stoneOf_32 a0.2.2.2.1 hj1 ej1 (by decide) ?_
    refine jw_imul (pc := 33) dX5_stoneOf_33 ?_
    refine jw_iadd (pc := 34) dX5_stoneOf_34 ?_
    refine jw_istore_n (pc := 35) (ls' := [(2, .int (l2 + (r1 * (M1.1 (p + 3) j1)))), (0, .ref (x.2.2.2 p)), (1, .ref (x.2.2.2 o1)), (3, .int l3)]) dX5_stoneOf_35 rfl (by decide) rfl ?_
    refine jw_iinc (pc := 36) (j := 3) (u := l3 + 1) (ls' := [(3, .int (l3 + 1)), (2, .int (l2 + (r1 * (M1.1 (p + 3) j1)))), (0, .ref (x.2.2.2 p)), (1, .ref (x.2.2.2 o1))]) dX5_stoneOf_36 rfl rfl (by decide) rfl ?_
    refine jw_goto (pc := 39) (tgt := 4) dX5_stoneOf_39 (by decide) ?_
    exact jw_sub [2, 3, 1, 0] rfl h
