set_option maxRecDepth 20000 in
theorem b_X3_begin {x : jX} {tb : jT} {d : Nat} {M : jM} {P : jM → Prop} {p : Nat} {a1 : Int32} (a0 : aX3 tb p)
    (h : (a1 = 0 ∨ a1 = 1) ∧ (∀ M1, M1 = jrI M p (upd (M.1 p) 0 a1) → ∀ M2, M2 = jrI M1 p (upd (M1.1 p) 1 (0 : Int32)) → ∀ M3, M3 = jrI M2 p (upd (M2.1 p) 2 (0 : Int32)) → P M3)) :
    JC x tb mX3_begin d [.ref (x.2.2.2 p), .int a1] M (jV P) := by
  refine JC.of rfl (Nat.le_of_ble_eq_true rfl) ?_
  refine jw_ls (ls' := [(0, .ref (x.2.2.2 p)), (1, .int a1)]) rfl ?_
  refine jw_aload_n (pc := 0) (j := 0) dX3_begin_0 rfl rfl ?_
  refine jw_iload_n (pc := 1) (j := 1) dX3_begin_1 rfl rfl ?_
  obtain ⟨h01, h⟩ := h
  refine jw_putZ (pc := 2) dX3_begin_2 a0.1 fl_X3_33 fw_3_0 (by decide) rfl h01 ?_
  replace h := h _ rfl
  generalize jrI M p (upd (M.1 p) 0 a1) = M1 at h ⊢
  refine jw_aload_n (pc := 5) (j := 0) dX3_begin_5 rfl rfl ?_
  refine jw_iconst (pc := 6) (v := 0) dX3_begin_6 rfl ?_
  refine jw_putI (pc := 7) dX3_begin_7 a0.1 fl_X3_37 fw_3_1 (by decide) rfl ?_
  replace h := h _ rfl
  generalize jrI M1 p (upd (M1.1 p) 1 (0 : Int32)) = M2 at h ⊢
  refine jw_aload_n (pc := 10) (j := 0) dX3_begin_10 rfl rfl ?_
  refine jw_iconst (pc := 11) (v := 0) dX3_begin_11 rfl ?_
  refine jw_putI (pc := 12) dX3_begin_12 a0.1 fl_X3_41 fw_3_2 (by decide) rfl ?_
  replace h := h _ rfl
  generalize jrI M2 p (upd (M2.1 p) 2 (0 : Int32)) = M3 at h ⊢
  exact jw_vret (pc := 15) dX3_begin_15 rfl ⟨rfl, h⟩
set_option maxRecDepth 20000 in
theorem b_X3_copyFrom {x : jX} {tb : jT} {d : Nat} {M : jM} {P : jM → Prop} {p : Nat} {o1 : Nat} (a0 : aX3 tb p) (b1 : aX3 tb o1)
    (h : ((M.1 o1 0) = 0 ∨ (M.1 o1 0) = 1) ∧ (∀ M1, M1 = jrI M p (upd (M.1 p) 0 (M.1 o1 0)) → ∀ M2, M2 = jrI M1 p (upd (M1.1 p) 1 (M1.1 o1 1)) → ∀ M3, M3 = jrI M2 p (upd (M2.1 p) 2 (M2.1 o1 2)) → ∃ c1, M3.1 p 2 = nI c1 ∧ 0 + c1 ≤ 60 ∧ 0 + c1 ≤ 60 ∧ (∀ M4, M4 = jrI M3 (p + 1) (va_cpy (M3.1 (o1 + 1)) (M3.1 (p + 1)) 0 0 c1) → ∃ c2, M4.1 p 2 = nI c2 ∧ 0 + c2 ≤ 60 ∧ 0 + c2 ≤ 60 ∧ (∀ M5, M5 = jrI M4 (p + 2) (va_cpy (M4.1 (o1 + 2)) (M4.1 (p + 2)) 0 0 c2) → ∃ c3, M5.1 p 2 = nI c3 ∧ 0 + c3 ≤ 60 ∧ 0 + c3 ≤ 60 ∧ (∀ M6, M6 = jrI M5 (p + 3) (va_cpy (M5.1 (o1 + 3)) (M5.1 (p + 3)) 0 0 c3) → ∃ c4, M6.1 p 2 = nI c4 ∧ 0 + c4 ≤ 60 ∧ 0 + c4 ≤ 60 ∧ (∀ M7, M7 = jrI M6 (p + 4) (va_cpy (M6.1 (o1 + 4)) (M6.1 (p + 4)) 0 0 c4) → ∃ c5, M7.1 p 2 = nI c5 ∧ 0 + c5 ≤ 60 ∧ 0 + c5 ≤ 60 ∧ (∀ M8, M8 = jrI M7 (p + 5) (va_cpy (M7.1 (o1 + 5)) (M7.1 (p + 5)) 0 0 c5) → ∃ c6, M8.1 p 2 = nI c6 ∧ 0 + c6 ≤ 60 ∧ 0 + c6 ≤ 60 ∧ (∀ M9, M9 = jrI M8 (p + 6) (va_cpy (M8.1 (o1 + 6)) (M8.1 (p + 6)) 0 0 c6) → ∃ c7, M9.1 p 2 = nI c7 ∧ 0 + c7 ≤ 60 ∧ 0 + c7 ≤ 60 ∧ (∀ M10, M10 = jrI M9 (p + 7) (va_cpy (M9.1 (o1 + 7)) (M9.1 (p + 7)) 0 0 c7) → P M10))))))))) :
    JC x tb mX3_copyFrom (d + 1) [.ref (x.2.2.2 p), .ref (x.2.2.2 o1)] M (jV P) := by
  refine JC.of rfl (Nat.le_of_ble_eq_true rfl) ?_
  refine jw_ls (ls' := [(0, .ref (x.2.2.2 p)), (1, .ref (x.2.2.2 o1))]) rfl ?_
  refine jw_aload_n (pc := 0) (j := 0) dX3_copyFrom_0 rfl rfl ?_
  refine jw_aload_n (pc := 1) (j := 1) dX3_copyFrom_1 rfl rfl ?_
  refine jw_getI (pc := 2) dX3_copyFrom_2 b1.1 fl_X3_33 (by decide) rfl ?_
  obtain ⟨h01, h⟩ := h
  refine jw_putZ (pc := 5) dX3_copyFrom_5 a0.1 fl_X3_33 fw_3_0 (by decide) rfl h01 ?_
  replace h := h _ rfl
  generalize jrI M p (upd (M.1 p) 0 (M.1 o1 0)) = M1 at h ⊢
  refine jw_aload_n (pc := 8) (j := 0) dX3_copyFrom_8 rfl rfl ?_
  refine jw_aload_n (pc := 9) (j := 1) dX3_copyFrom_9 rfl rfl ?_
  refine jw_getI (pc := 10) dX3_copyFrom_10 b1.1 fl_X3_37 (by decide) rfl ?_
  refine jw_putI (pc := 13) dX3_copyFrom_13 a0.1 fl_X3_37 fw_3_1 (by decide) rfl ?_
  replace h := h _ rfl
  generalize jrI M1 p (upd (M1.1 p) 1 (M1.1 o1 1)) = M2 at h ⊢
  refine jw_aload_n (pc := 16) (j := 0) dX3_copyFrom_16 rfl rfl ?_
  refine jw_aload_n (pc := 17) (j := 1) dX3_copyFrom_17 rfl rfl ?_
  refine jw_getI (pc := 18) dX3_copyFrom_18 b1.1 fl_X3_41 (by decide) rfl ?_
  refine jw_putI (pc := 21) dX3_copyFrom_21 a0.1 fl_X3_41 fw_3_2 (by decide) rfl ?_
  replace h := h _ rfl
  generalize jrI M2 p (upd (M2.1 p) 2 (M2.1 o1 2)) = M3 at h ⊢
  refine jw_aload_n (pc := 24) (j := 1) dX3_copyFrom_24 rfl rfl ?_
  refine jw_getR (pc := 25) (r := o1 + 1) dX3_copyFrom_25 b1.1 fl_X3_9 (by decide) rfl rfl ?_
  refine jw_iconst (pc := 28) (v := 0) dX3_copyFrom_28 rfl ?_
  refine jw_aload_n (pc := 29) (j := 0) dX3_copyFrom_29 rfl rfl ?_
  refine jw_getR (pc := 30) (r := p + 1) dX3_copyFrom_30 a0.1 fl_X3_9 (by decide) rfl rfl ?_
  refine jw_iconst (pc := 33) (v := 0) dX3_copyFrom_33 rfl ?_
  refine jw_aload_n (pc := 34) (j := 0) dX3_copyFrom_34 rfl rfl ?_
  refine jw_getI (pc := 35) dX3_copyFrom_35 a0.1 fl_X3_41 (by decide) rfl ?_
  obtain ⟨c1, ec1, q1, q2, h⟩ := h
  refine jw_copyI (pc := 38) (a := 0) (b := 0) (k := c1) (st := []) dX3_copyFrom_38 ac_X3_44 ac_n ac_s ac_i b1.2.1 a0.2.1 rfl rfl ec1 q1 q2 (by decide) (by decide) (jcw (Nat.le_of_ble_eq_true rfl)) ?_
  replace h := h _ rfl
  generalize jrI M3 (p + 1) (va_cpy (M3.1 (o1 + 1)) (M3.1 (p + 1)) 0 0 c1) = M4 at h ⊢
  refine jw_aload_n (pc := 41) (j := 1) dX3_copyFrom_41 rfl rfl ?_
  refine jw_getR (pc := 42) (r := o1 + 2) dX3_copyFrom_42 b1.1 fl_X3_15 (by decide) rfl rfl ?_
  refine jw_iconst (pc := 45) (v := 0) dX3_copyFrom_45 rfl ?_
  refine jw_aload_n (pc := 46) (j := 0) dX3_copyFrom_46 rfl rfl ?_
  refine jw_getR (pc := 47) (r := p + 2) dX3_copyFrom_47 a0.1 fl_X3_15 (by decide) rfl rfl ?_
  refine jw_iconst (pc := 50) (v := 0) dX3_copyFrom_50 rfl ?_
  refine jw_aload_n (pc := 51) (j := 0) dX3_copyFrom_51 rfl rfl ?_
  refine jw_getI (pc := 52) dX3_copyFrom_52 a0.1 fl_X3_41 (by decide) rfl ?_
  obtain ⟨c2, ec2, q1, q2, h⟩ := h
  refine jw_copyI (pc := 55) (a := 0) (b := 0) (k := c2) (st := []) dX3_copyFrom_55 ac_X3_44 ac_n ac_s ac_i b1.2.2.1 a0.2.2.1 rfl rfl ec2 q1 q2 (by decide) (by decide) (jcw (Nat.le_of_ble_eq_true rfl)) ?_
  replace h := h _ rfl
  generalize jrI M4 (p + 2) (va_cpy (M4.1 (o1 + 2)) (M4.1 (p + 2)) 0 0 c2) = M5 at h ⊢
  refine jw_aload_n (pc := 58) (j := 1) dX3_copyFrom_58 rfl rfl ?_
  refine jw_getR (pc := 59) (r := o1 + 3) dX3_copyFrom_59 b1.1 fl_X3_18 (by decide) rfl rfl ?_
  refine jw_iconst (pc := 62) (v := 0) dX3_copyFrom_62 rfl ?_
  refine jw_aload_n (pc := 63) (j := 0) dX3_copyFrom_63 rfl rfl ?_
  refine jw_getR (pc := 64) (r := p + 3) dX3_copyFrom_64 a0.1 fl_X3_18 (by decide) rfl rfl ?_
  refine jw_iconst (pc := 67) (v := 0) dX3_copyFrom_67 rfl ?_
  refine jw_aload_n (pc := 68) (j := 0) dX3_copyFrom_68 rfl rfl ?_
  refine jw_getI (pc := 69) dX3_copyFrom_69 a0.1 fl_X3_41 (by decide) rfl ?_
  obtain ⟨c3, ec3, q1, q2, h⟩ := h
  refine jw_copyI (pc := 72) (a := 0) (b := 0) (k := c3) (st := []) dX3_copyFrom_72 ac_X3_44 ac_n ac_s ac_i b1.2.2.2.1 a0.2.2.2.1 rfl rfl ec3 q1 q2 (by decide) (by decide) (jcw (Nat.le_of_ble_eq_true rfl)) ?_
  replace h := h _ rfl
  generalize jrI M5 (p + 3) (va_cpy (M5.1 (o1 + 3)) (M5.1 (p + 3)) 0 0 c3) = M6 at h ⊢
  refine jw_aload_n (pc := 75) (j := 1) dX3_copyFrom_75 rfl rfl ?_
  refine jw_getR (pc := 76) (r := o1 + 4) dX3_copyFrom_76 b1.1 fl_X3_21 (by decide) rfl rfl ?_
  refine jw_iconst (pc := 79) (v := 0) dX3_copyFrom_79 rfl ?_
  refine jw_aload_n (pc := 80) (j := 0) dX3_copyFrom_80 rfl rfl ?_
  refine jw_getR (pc := 81) (r := p + 4) dX3_copyFrom_81 a0.1 fl_X3_21 (by decide) rfl rfl ?_
  refine jw_iconst (pc := 84) (v := 0) dX3_copyFrom_84 rfl ?_
  refine jw_aload_n (pc := 85) (j := 0) dX3_copyFrom_85 rfl rfl ?_
  refine jw_getI (pc := 86) dX3_copyFrom_86 a0.1 fl_X3_41 (by decide) rfl ?_
  obtain ⟨c4, ec4, q1, q2, h⟩ := h
  refine jw_copyI (pc := 89) (a := 0) (b := 0) (k := c4) (st := []) dX3_copyFrom_89 ac_X3_44 ac_n ac_s ac_i b1.2.2.2.2.1 a0.2.2.2.2.1 rfl rfl ec4 q1 q2 (by decide) (by decide) (jcw (Nat.le_of_ble_eq_true rfl)) ?_
  replace h := h _ rfl
  generalize jrI M6 (p + 4) (va_cpy (M6.1 (o1 + 4)) (M6.1 (p + 4)) 0 0 c4) = M7 at h ⊢
  refine jw_aload_n (pc := 92) (j := 1) dX3_copyFrom_92 rfl rfl ?_
  refine jw_getR (pc := 93) (r := o1 + 5) dX3_copyFrom_93 b1.1 fl_X3_24 (by decide) rfl rfl ?_
  refine jw_iconst (pc := 96) (v := 0) dX3_copyFrom_96 rfl ?_
  refine jw_aload_n (pc := 97) (j := 0) dX3_copyFrom_97 rfl rfl ?_
  refine jw_getR (pc := 98) (r := p + 5) dX3_copyFrom_98 a0.1 fl_X3_24 (by decide) rfl rfl ?_
  refine jw_iconst (pc := 101) (v := 0) dX3_copyFrom_101 rfl ?_
  refine jw_aload_n (pc := 102) (j := 0) dX3_copyFrom_102 rfl rfl ?_
  refine jw_getI (pc := 103) dX3_copyFrom_103 a0.1 fl_X3_41 (by decide) rfl ?_
  obtain ⟨c5, ec5, q1, q2, h⟩ := h
  refine jw_copyI (pc := 106) (a := 0) (b := 0) (k := c5) (st := []) dX3_copyFrom_106 ac_X3_44 ac_n ac_s ac_i b1.2.2.2.2.2.1 a0.2.2.2.2.2.1 rfl rfl ec5 q1 q2 (by decide) (by decide) (jcw (Nat.le_of_ble_eq_true rfl)) ?_
  replace h := h _ rfl
  generalize jrI M7 (p + 5) (va_cpy (M7.1 (o1 + 5)) (M7.1 (p + 5)) 0 0 c5) = M8 at h ⊢
  refine jw_aload_n (pc := 109) (j := 1) dX3_copyFrom_109 rfl rfl ?_
  refine jw_getR (pc := 110) (r := o1 + 6) dX3_copyFrom_110 b1.1 fl_X3_27 (by decide) rfl rfl ?_
  refine jw_iconst (pc := 113) (v := 0) dX3_copyFrom_113 rfl ?_
  refine jw_aload_n (pc := 114) (j := 0) dX3_copyFrom_114 rfl rfl ?_
  refine jw_getR (pc := 115) (r := p + 6) dX3_copyFrom_115 a0.1 fl_X3_27 (by decide) rfl rfl ?_
  refine jw_iconst (pc := 118) (v := 0) dX3_copyFrom_118 rfl ?_
  refine jw_aload_n (pc := 119) (j := 0) dX3_copyFrom_119 rfl rfl ?_
  refine jw_getI (pc := 120) dX3_copyFrom_120 a0.1 fl_X3_41 (by decide) rfl ?_
  obtain ⟨c6, ec6, q1, q2, h⟩ := h
  refine jw_copyI (pc := 123) (a := 0) (b := 0) (k := c6) (st := []) dX3_copyFrom_123 ac_X3_44 ac_n ac_s ac_i b1.2.2.2.2.2.2.1 a0.2.2.2.2.2.2.1 rfl rfl ec6 q1 q2 (by decide) (by decide) (jcw (Nat.le_of_ble_eq_true rfl)) ?_
  replace h := h _ rfl
  generalize jrI M8 (p + 6) (va_cpy (M8.1 (o1 + 6)) (M8.1 (p + 6)) 0 0 c6) = M9 at h ⊢
  refine jw_aload_n (pc := 126) (j := 1) dX3_copyFrom_126 rfl rfl ?_
  refine jw_getR (pc := 127) (r := o1 + 7) dX3_copyFrom_127 b1.1 fl_X3_30 (by decide) rfl rfl ?_
  refine jw_iconst (pc := 130) (v := 0) dX3_copyFrom_130 rfl ?_
  refine jw_aload_n (pc := 131) (j := 0) dX3_copyFrom_131 rfl rfl ?_
  refine jw_getR (pc := 132) (r := p + 7) dX3_copyFrom_132 a0.1 fl_X3_30 (by decide) rfl rfl ?_
  refine jw_iconst (pc := 135) (v := 0) dX3_copyFrom_135 rfl ?_
  refine jw_aload_n (pc := 136) (j := 0) dX3_copyFrom_136 rfl rfl ?_
  refine jw_getI (pc := 137) dX3_copyFrom_137 a0.1 fl_X3_41 (by decide) rfl ?_
  obtain ⟨c7, ec7, q1, q2, h⟩ := h
  refine jw_copyI (pc := 140) (a := 0) (b := 0) (k := c7) (st := []) dX3_copyFrom_140 ac_X3_44 ac_n ac_s ac_i b1.2.2.2.2.2.2.2 a0.2.2.2.2.2.2.2 rfl rfl ec7 q1 q2 (by decide) (by decide) (jcw (Nat.le_of_ble_eq_true rfl)) ?_
  replace h := h _ rfl
  generalize jrI M9 (p + 7) (va_cpy (M9.1 (o1 + 7)) (M9.1 (p + 7)) 0 0 c7) = M10 at h ⊢
  exact jw_vret (pc := 143) dX3_copyFrom_143 rfl ⟨rfl, h⟩
