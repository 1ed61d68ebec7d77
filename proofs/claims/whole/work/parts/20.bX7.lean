set_option maxRecDepth 20000 in
theorem b_X7_begin {x : jX} {tb : jT} {d : Nat} {M : jM} {P : jM → Prop} {p : Nat} {o1 : Nat} {n1 : Nat} {a2 : Int32} (a0 : aX7 tb p) (s1 : js tb o1 = (21, n1)) (z1 : n1 < 2 ^ 31)
    (h : o1 < 2 ^ 31 ∧ (∀ M1, M1 = jrI M p (upd (M.1 p) 9 (nI o1)) → JC x tb mJ9_min_7cf53 d [.int a2, .int (nI n1)] M1 (jI fun M2 r1 => ∀ M3, M3 = jrI M2 p (upd (M2.1 p) 10 r1) → ∀ M4, M4 = jrI M3 p (upd (M3.1 p) 11 (0 : Int32)) → ∀ M5, M5 = jrI M4 p (upd (M4.1 p) 6 (0 : Int32)) → ∀ M6, M6 = jrI M5 p (upd (M5.1 p) 7 (-1 : Int32)) → JC x tb mX7_step d [.ref (x.2.2.2 p)] M6 (jV fun M7 => P M7)))) :
    JC x tb mX7_begin (d + 1) [.ref (x.2.2.2 p), .ref (x.2.2.2 o1), .int a2] M (jV P) := by
  refine JC.of rfl (Nat.le_of_ble_eq_true rfl) ?_
  refine jw_ls (ls' := [(0, .ref (x.2.2.2 p)), (1, .ref (x.2.2.2 o1)), (2, .int a2)]) rfl ?_
  refine jw_aload_n (pc := 0) (j := 0) dX7_begin_0 rfl rfl ?_
  refine jw_aload_n (pc := 1) (j := 1) dX7_begin_1 rfl rfl ?_
  obtain ⟨h31, h⟩ := h
  refine jw_putT (pc := 2) dX7_begin_2 a0.1 fl_X7_15 fw_7_9 (by decide) rfl h31 ?_
  replace h := h _ rfl
  generalize jrI M p (upd (M.1 p) 9 (nI o1)) = M1 at h ⊢
  refine jw_aload_n (pc := 5) (j := 0) dX7_begin_5 rfl rfl ?_
  refine jw_iload_n (pc := 6) (j := 2) dX7_begin_6 rfl rfl ?_
  refine jw_aload_n (pc := 7) (j := 1) dX7_begin_7 rfl rfl ?_
  refine jw_alen (pc := 8) dX7_begin_8 s1 (by decide) (by decide) ?_
  refine jw_callS (pc := 9) (m2 := mJ9_min_7cf53) (As := [.int a2, .int (nI n1)]) (st := [.ref (x.2.2.2 p)]) dX7_begin_9 gm_J9_min_7cf53 ml_X7_31 rfl (Nat.le_of_ble_eq_true rfl) (JC.mono h ?_)
  clear h
  rintro M2 _ ⟨r1, rfl, h⟩
  refine jw_st (st' := [.int r1, .ref (x.2.2.2 p)]) rfl ?_
  refine jw_putI (pc := 12) dX7_begin_12 a0.1 fl_X7_37 fw_7_10 (by decide) rfl ?_
  replace h := h _ rfl
  generalize jrI M2 p (upd (M2.1 p) 10 r1) = M3 at h ⊢
  refine jw_aload_n (pc := 15) (j := 0) dX7_begin_15 rfl rfl ?_
  refine jw_iconst (pc := 16) (v := 0) dX7_begin_16 rfl ?_
  refine jw_putI (pc := 17) dX7_begin_17 a0.1 fl_X7_40 fw_7_11 (by decide) rfl ?_
  replace h := h _ rfl
  generalize jrI M3 p (upd (M3.1 p) 11 (0 : Int32)) = M4 at h ⊢
  refine jw_aload_n (pc := 20) (j := 0) dX7_begin_20 rfl rfl ?_
  refine jw_iconst (pc := 21) (v := 0) dX7_begin_21 rfl ?_
  refine jw_putI (pc := 22) dX7_begin_22 a0.1 fl_X7_43 fw_7_6 (by decide) rfl ?_
  replace h := h _ rfl
  generalize jrI M4 p (upd (M4.1 p) 6 (0 : Int32)) = M5 at h ⊢
  refine jw_aload_n (pc := 25) (j := 0) dX7_begin_25 rfl rfl ?_
  refine jw_iconst (pc := 26) (v := (-1)) dX7_begin_26 rfl ?_
  refine jw_putI (pc := 27) dX7_begin_27 a0.1 fl_X7_46 fw_7_7 (by decide) rfl ?_
  replace h := h _ rfl
  generalize jrI M5 p (upd (M5.1 p) 7 (-1 : Int32)) = M6 at h ⊢
  refine jw_aload_n (pc := 30) (j := 0) dX7_begin_30 rfl rfl ?_
  refine jw_callV (pc := 31) (m2 := mX7_step) (As := []) (st := []) dX7_begin_31 a0.1 (by decide) rfl rfl gm_X7_step ml_X7_49 rfl (Nat.le_of_ble_eq_true rfl) (JC.mono h ?_)
  clear h
  rintro M7 _ ⟨rfl, h⟩
  refine jw_st (st' := []) rfl ?_
  exact jw_vret (pc := 34) dX7_begin_34 rfl ⟨rfl, h⟩
set_option maxRecDepth 20000 in
theorem b_X7_step {x : jX} {tb : jT} {d : Nat} {M : jM} {P : jM → Prop} {p : Nat} (a0 : aX7 tb p)
    (h : ((M.1 p 10) ≤ (M.1 p 11) → JW x tb mX7_step (d + 1) (jV P) 52 [(0, .ref (x.2.2.2 p))] [] M) ∧ (¬ (M.1 p 10) ≤ (M.1 p 11) → ∃ tx1, M.1 p 9 = nI tx1 ∧ tx1 < 2 ^ 31 ∧ js tb tx1 = (21, 900) ∧ (∃ j1, j1 < 900 ∧ M.1 p 11 = nI j1 ∧ (((M.1 tx1 j1) = (10 : Int32) → ∀ M1, M1 = jrI M p (upd (M.1 p) 11 ((M.1 p 11) + (1 : Int32))) → JW x tb mX7_step (d + 1) (jV P) 0 [(0, .ref (x.2.2.2 p))] [] M1) ∧ (¬ (M.1 tx1 j1) = (10 : Int32) → ∃ tx2, M.1 p 9 = nI tx2 ∧ tx2 < 2 ^ 31 ∧ js tb tx2 = (21, 900) ∧ ((¬ (M.1 tx2 j1) = (32 : Int32) → JW x tb mX7_step (d + 1) (jV P) 52 [(0, .ref (x.2.2.2 p))] [] M) ∧ ((M.1 tx2 j1) = (32 : Int32) → ∀ M2, M2 = jrI M p (upd (M.1 p) 11 ((M.1 p 11) + (1 : Int32))) → JW x tb mX7_step (d + 1) (jV P) 0 [(0, .ref (x.2.2.2 p))] [] M2))))))) :
    JC x tb mX7_step (d + 1) [.ref (x.2.2.2 p)] M (jV P) := by
  refine JC.of rfl (Nat.le_of_ble_eq_true rfl) ?_
  refine jw_ls (ls' := [(0, .ref (x.2.2.2 p))]) rfl ?_
  refine jw_aload_n (pc := 0) (j := 0) dX7_step_0 rfl rfl ?_
  refine jw_getI (pc := 1) dX7_step_1 a0.1 fl_X7_40 (by decide) rfl ?_
  refine jw_aload_n (pc := 4) (j := 0) dX7_step_4 rfl rfl ?_
  refine jw_getI (pc := 5) dX7_step_5 a0.1 fl_X7_37 (by decide) rfl ?_
  refine jw_icmp_ge (pc := 8) (tgt := 52) dX7_step_8 (by decide) (fun c => ?_) (fun c => ?_)
  · replace h := h.1 c
    exact jw_sub [0] rfl h
  · replace h := h.2 c
    refine jw_aload_n (pc := 11) (j := 0) dX7_step_11 rfl rfl ?_
    refine jw_getT (pc := 12) dX7_step_12 a0.1 fl_X7_15 (by decide) rfl ?_
    obtain ⟨tx1, etx1, ltx1, stx1, h⟩ := h
    rw [etx1, nI_clamp ltx1]
    refine jw_aload_n (pc := 15) (j := 0) dX7_step_15 rfl rfl ?_
    refine jw_getI (pc := 16) dX7_step_16 a0.1 fl_X7_40 (by decide) rfl ?_
    obtain ⟨j1, hj1, ej1, h⟩ := h
    refine jw_bald (pc := 19) (j := j1) dX7_step_19 stx1 hj1 ej1 (by decide) ?_
    refine jw_bipush (pc := 20) (v := 10) dX7_step_20 rfl ?_
    refine jw_icmp_eq (pc := 22) (tgt := 39) dX7_step_22 (by decide) (fun c => ?_) (fun c => ?_)
    · replace h := h.1 c
      refine jw_aload_n (pc := 39) (j := 0) dX7_step_39 rfl rfl ?_
      refine jw_dup (pc := 40) dX7_step_40 rfl ?_
      refine jw_getI (pc := 41) dX7_step_41 a0.1 fl_X7_40 (by decide) rfl ?_
      refine jw_iconst (pc := 44) (v := 1) dX7_step_44 rfl ?_
      refine jw_iadd (pc := 45) dX7_step_45 ?_
      refine jw_putI (pc := 46) dX7_step_46 a0.1 fl_X7_40 fw_7_11 (by decide) rfl ?_
      replace h := h _ rfl
      generalize jrI M p (upd (M.1 p) 11 ((M.1 p 11) + (1 : Int32))) = M1 at h ⊢
      refine jw_goto (pc := 49) (tgt := 0) dX7_step_49 (by decide) ?_
      exact jw_sub [0] rfl h
    · replace h := h.2 c
      refine jw_aload_n (pc := 25) (j := 0) dX7_step_25 rfl rfl ?_
      refine jw_getT (pc := 26) dX7_step_26 a0.1 fl_X7_15 (by decide) rfl ?_
      obtain ⟨tx2, etx2, ltx2, stx2, h⟩ := h
      rw [etx2, nI_clamp ltx2]
      refine jw_aload_n (pc := 29) (j := 0) dX7_step_29 rfl rfl ?_
      refine jw_getI (pc := 30) dX7_step_30 a0.1 fl_X7_40 (by decide) rfl ?_
      refine jw_bald (pc := 33) (j := j1) dX7_step_33 stx2 hj1 ej1 (by decide) ?_
      refine jw_bipush (pc := 34) (v := 32) dX7_step_34 rfl ?_
      refine jw_icmp_ne (pc := 36) (tgt := 52) dX7_step_36 (by decide) (fun c => ?_) (fun c => ?_)
      · replace h := h.1 c
        exact jw_sub [0] rfl h
      · replace h := h.2 c
        refine jw_aload_n (pc := 39) (j := 0) dX7_step_39 rfl rfl ?_
        refine jw_dup (pc := 40) dX7_step_40 rfl ?_
        refine jw_getI (pc := 41) dX7_step_41 a0.1 fl_X7_40 (by decide) rfl ?_
        refine jw_iconst (pc := 44) (v := 1) dX7_step_44 rfl ?_
        refine jw_iadd (pc := 45) dX7_step_45 ?_
        refine jw_putI (pc := 46) dX7_step_46 a0.1 fl_X7_40 fw_7_11 (by decide) rfl ?_
        replace h := h _ rfl
        generalize jrI M p (upd (M.1 p) 11 ((M.1 p 11) + (1 : Int32))) = M2 at h ⊢
        refine jw_goto (pc := 49) (tgt := 0) dX7_step_49 (by decide) ?_
        exact jw_sub [0] rfl h
set_option maxRecDepth 20000 in
theorem b_X7_step_0 {x : jX} {tb : jT} {d : Nat} {M : jM} {P : jM → Prop} {p : Nat} (a0 : aX7 tb p)
    (h : ((M.1 p 10) ≤ (M.1 p 11) → JW x tb mX7_step (d + 1) (jV P) 52 [(0, .ref (x.2.2.2 p))] [] M) ∧ (¬ (M.1 p 10) ≤ (M.1 p 11) → ∃ tx1, M.1 p 9 = nI tx1 ∧ tx1 < 2 ^ 31 ∧ js tb tx1 = (21, 900) ∧ (∃ j1, j1 < 900 ∧ M.1 p 11 = nI j1 ∧ (((M.1 tx1 j1) = (10 : Int32) → ∀ M1, M1 = jrI M p (upd (M.1 p) 11 ((M.1 p 11) + (1 : Int32))) → JW x tb mX7_step (d + 1) (jV P) 0 [(0, .ref (x.2.2.2 p))] [] M1) ∧ (¬ (M.1 tx1 j1) = (10 : Int32) → ∃ tx2, M.1 p 9 = nI tx2 ∧ tx2 < 2 ^ 31 ∧ js tb tx2 = (21, 900) ∧ ((¬ (M.1 tx2 j1) = (32 : Int32) → JW x tb mX7_step (d + 1) (jV P) 52 [(0, .ref (x.2.2.2 p))] [] M) ∧ ((M.1 tx2 j1) = (32 : Int32) → ∀ M2, M2 = jrI M p (upd (M.1 p) 11 ((M.1 p 11) + (1 : Int32))) → JW x tb mX7_step (d + 1) (jV P) 0 [(0, .ref (x.2.2.2 p))] [] M2))))))) :
    JW x tb mX7_step (d + 1) (jV P) 0 [(0, .ref (x.2.2.2 p))] [] M := by
  refine jw_aload_n (pc := 0) (j := 0) dX7_step_0 rfl rfl ?_
  refine jw_getI (pc := 1) dX7_step_1 a0.1 fl_X7_40 (by decide) rfl ?_
  refine jw_aload_n (pc := 4) (j := 0) dX7_step_4 rfl rfl ?_
  refine jw_getI (pc := 5) dX7_step_5 a0.1 fl_X7_37 (by decide) rfl ?_
  refine jw_icmp_ge (pc := 8) (tgt := 52) dX7_step_8 (by decide) (fun c => ?_) (fun c => ?_)
  · replace h := h.1 c
    exact jw_sub [0] rfl h
  · replace h := h.2 c
    refine jw_aload_n (pc := 11) (j := 0) dX7_step_11 rfl rfl ?_
    refine jw_getT (pc := 12) dX7_step_12 a0.1 fl_X7_15 (by decide) rfl ?_
    obtain ⟨tx1, etx1, ltx1, stx1, h⟩ := h
    rw [etx1, nI_clamp ltx1]
    refine jw_aload_n (pc := 15) (j := 0) dX7_step_15 rfl rfl ?_
    refine jw_getI (pc := 16) dX7_step_16 a0.1 fl_X7_40 (by decide) rfl ?_
    obtain ⟨j1, hj1, ej1, h⟩ := h
    refine jw_bald (pc := 19) (j := j1) dX7_step_19 stx1 hj1 ej1 (by decide) ?_
    refine jw_bipush (pc := 20) (v := 10) dX7_step_20 rfl ?_
    refine jw_icmp_eq (pc := 22) (tgt := 39) dX7_step_22 (by decide) (fun c => ?_) (fun c => ?_)
    · replace h := h.1 c
      refine jw_aload_n (pc := 39) (j := 0) dX7_step_39 rfl rfl ?_
      refine jw_dup (pc := 40) dX7_step_40 rfl ?_
      refine jw_getI (pc := 41) dX7_step_41 a0.1 fl_X7_40 (by decide) rfl ?_
      refine jw_iconst (pc := 44) (v := 1) dX7_step_44 rfl ?_
      refine jw_iadd (pc := 45) dX7_step_45 ?_
      refine jw_putI (pc := 46) dX7_step_46 a0.1 fl_X7_40 fw_7_11 (by decide) rfl ?_
      replace h := h _ rfl
      generalize jrI M p (upd (M.1 p) 11 ((M.1 p 11) + (1 : Int32))) = M1 at h ⊢
      refine jw_goto (pc := 49) (tgt := 0) dX7_step_49 (by decide) ?_
      exact jw_sub [0] rfl h
    · replace h := h.2 c
      refine jw_aload_n (pc := 25) (j := 0) dX7_step_25 rfl rfl ?_
      refine jw_getT (pc := 26) dX7_step_26 a0.1 fl_X7_15 (by decide) rfl ?_
      obtain ⟨tx2, etx2, ltx2, stx2, h⟩ := h
      rw [etx2, nI_clamp ltx2]
      refine jw_aload_n (pc := 29) (j := 0) dX7_step_29 rfl rfl ?_
      refine jw_getI (pc := 30) dX7_step_30 a0.1 fl_X7_40 (by decide) rfl ?_
      refine jw_bald (pc := 33) (j := j1) dX7_step_33 stx2 hj1 ej1 (by decide) ?_
      refine jw_bipush (pc := 34) (v := 32) dX7_step_34 rfl ?_
      refine jw_icmp_ne (pc := 36) (tgt := 52) dX7_step_36 (by decide) (fun c => ?_) (fun c => ?_)
      · replace h := h.1 c
        exact jw_sub [0] rfl h
      · replace h := h.2 c
        refine jw_aload_n (pc := 39) (j := 0) dX7_step_39 rfl rfl ?_
        refine jw_dup (pc := 40) dX7_step_40 rfl ?_
        refine jw_getI (pc := 41) dX7_step_41 a0.1 fl_X7_40 (by decide) rfl ?_
        refine jw_iconst (pc := 44) (v := 1) dX7_step_44 rfl ?_
        refine jw_iadd (pc := 45) dX7_step_45 ?_
        refine jw_putI (pc := 46) dX7_step_46 a0.1 fl_X7_40 fw_7_11 (by decide) rfl ?_
        replace h := h _ rfl
        generalize jrI M p (upd (M.1 p) 11 ((M.1 p 11) + (1 : Int32))) = M2 at h ⊢
        refine jw_goto (pc := 49) (tgt := 0) dX7_step_49 (by decide) ?_
        exact jw_sub [0] rfl h
set_option maxRecDepth 20000 in
theorem b_X7_step_52 {x : jX} {tb : jT} {d : Nat} {M : jM} {P : jM → Prop} {p : Nat} (a0 : aX7 tb p)
    (h : ∀ M1, M1 = jrI M p (upd (M.1 p) 12 (M.1 p 11)) → ∀ M2, M2 = jrI M1 p (upd (M1.1 p) 3 (-1 : Int32)) → ((M2.1 p 11) < (M2.1 p 10) → ∃ tx1, M2.1 p 9 = nI tx1 ∧ tx1 < 2 ^ 31 ∧ js tb tx1 = (21, 900) ∧ (∃ j1, j1 < 900 ∧ M2.1 p 11 = nI j1 ∧ (((M2.1 tx1 j1) < (97 : Int32) → JW x tb mX7_step (d + 1) (jV P) 119 [(0, .ref (x.2.2.2 p))] [] M2) ∧ (¬ (M2.1 tx1 j1) < (97 : Int32) → ∃ tx2, M2.1 p 9 = nI tx2 ∧ tx2 < 2 ^ 31 ∧ js tb tx2 = (21, 900) ∧ (((122 : Int32) < (M2.1 tx2 j1) → JW x tb mX7_step (d + 1) (jV P) 119 [(0, .ref (x.2.2.2 p))] [] M2) ∧ (¬ (122 : Int32) < (M2.1 tx2 j1) → JC x tb mX7_readWord d [.ref (x.2.2.2 p)] M2 (jV fun M3 => P M3))))))) ∧ (¬ (M2.1 p 11) < (M2.1 p 10) → ∀ M4, M4 = jrI M2 p (upd (M2.1 p) 0 (0 : Int32)) → P M4)) :
    JW x tb mX7_step (d + 1) (jV P) 52 [(0, .ref (x.2.2.2 p))] [] M := by
  refine jw_aload_n (pc := 52) (j := 0) dX7_step_52 rfl rfl ?_
  refine jw_aload_n (pc := 53) (j := 0) dX7_step_53 rfl rfl ?_
  refine jw_getI (pc := 54) dX7_step_54 a0.1 fl_X7_40 (by decide) rfl ?_
  refine jw_putI (pc := 57) dX7_step_57 a0.1 fl_X7_52 fw_7_12 (by decide) rfl ?_
  replace h := h _ rfl
  generalize jrI M p (upd (M.1 p) 12 (M.1 p 11)) = M1 at h ⊢
  refine jw_aload_n (pc := 60) (j := 0) dX7_step_60 rfl rfl ?_
  refine jw_iconst (pc := 61) (v := (-1)) dX7_step_61 rfl ?_
  refine jw_putI (pc := 62) dX7_step_62 a0.1 fl_X7_55 fw_7_3 (by decide) rfl ?_
  replace h := h _ rfl
  generalize jrI M1 p (upd (M1.1 p) 3 (-1 : Int32)) = M2 at h ⊢
  refine jw_aload_n (pc := 65) (j := 0) dX7_step_65 rfl rfl ?_
  refine jw_getI (pc := 66) dX7_step_66 a0.1 fl_X7_40 (by decide) rfl ?_
  refine jw_aload_n (pc := 69) (j := 0) dX7_step_69 rfl rfl ?_
  refine jw_getI (pc := 70) dX7_step_70 a0.1 fl_X7_37 (by decide) rfl ?_
  refine jw_icmp_lt (pc := 73) (tgt := 84) dX7_step_73 (by decide) (fun c => ?_) (fun c => ?_)
  · replace h := h.1 c
    refine jw_aload_n (pc := 84) (j := 0) dX7_step_84 rfl rfl ?_
    refine jw_getT (pc := 85) dX7_step_85 a0.1 fl_X7_15 (by decide) rfl ?_
    obtain ⟨tx1, etx1, ltx1, stx1, h⟩ := h
    rw [etx1, nI_clamp ltx1]
    refine jw_aload_n (pc := 88) (j := 0) dX7_step_88 rfl rfl ?_
    refine jw_getI (pc := 89) dX7_step_89 a0.1 fl_X7_40 (by decide) rfl ?_
    obtain ⟨j1, hj1, ej1, h⟩ := h
    refine jw_bald (pc := 92) (j := j1) dX7_step_92 stx1 hj1 ej1 (by decide) ?_
    refine jw_bipush (pc := 93) (v := 97) dX7_step_93 rfl ?_
    refine jw_icmp_lt (pc := 95) (tgt := 119) dX7_step_95 (by decide) (fun c => ?_) (fun c => ?_)
    · replace h := h.1 c
      exact jw_sub [0] rfl h
    · replace h := h.2 c
      refine jw_aload_n (pc := 98) (j := 0) dX7_step_98 rfl rfl ?_
      refine jw_getT (pc := 99) dX7_step_99 a0.1 fl_X7_15 (by decide) rfl ?_
      obtain ⟨tx2, etx2, ltx2, stx2, h⟩ := h
      rw [etx2, nI_clamp ltx2]
      refine jw_aload_n (pc := 102) (j := 0) dX7_step_102 rfl rfl ?_
      refine jw_getI (pc := 103) dX7_step_103 a0.1 fl_X7_40 (by decide) rfl ?_
      refine jw_bald (pc := 106) (j := j1) dX7_step_106 stx2 hj1 ej1 (by decide) ?_
      refine jw_bipush (pc := 107) (v := 122) dX7_step_107 rfl ?_
      refine jw_icmp_gt (pc := 109) (tgt := 119) dX7_step_109 (by decide) (fun c => ?_) (fun c => ?_)
      · replace h := h.1 c
        exact jw_sub [0] rfl h
      · replace h := h.2 c
        refine jw_aload_n (pc := 112) (j := 0) dX7_step_112 rfl rfl ?_
        refine jw_callV (pc := 113) (m2 := mX7_readWord) (As := []) (st := []) dX7_step_113 a0.1 (by decide) rfl rfl gm_X7_readWord ml_X7_61 rfl (Nat.le_of_ble_eq_true rfl) (JC.mono h ?_)
        clear h
        rintro M3 _ ⟨rfl, h⟩
        refine jw_st (st' := []) rfl ?_
        refine jw_goto (pc := 116) (tgt := 158) dX7_step_116 (by decide) ?_
        exact jw_vret (pc := 158) dX7_step_158 rfl ⟨rfl, h⟩
  · replace h := h.2 c
    refine jw_aload_n (pc := 76) (j := 0) dX7_step_76 rfl rfl ?_
    refine jw_iconst (pc := 77) (v := 0) dX7_step_77 rfl ?_
    refine jw_putI (pc := 78) dX7_step_78 a0.1 fl_X7_58 fw_7_0 (by decide) rfl ?_
    replace h := h _ rfl
    generalize jrI M2 p (upd (M2.1 p) 0 (0 : Int32)) = M4 at h ⊢
    refine jw_goto (pc := 81) (tgt := 158) dX7_step_81 (by decide) ?_
    exact jw_vret (pc := 158) dX7_step_158 rfl ⟨rfl, h⟩
set_option maxRecDepth 20000 in
theorem b_X7_step_119 {x : jX} {tb : jT} {d : Nat} {M : jM} {P : jM → Prop} {p : Nat} (a0 : aX7 tb p)
    (h : ∃ tx1, M.1 p 9 = nI tx1 ∧ tx1 < 2 ^ 31 ∧ js tb tx1 = (21, 900) ∧ (∃ j1, j1 < 900 ∧ M.1 p 11 = nI j1 ∧ (((M.1 tx1 j1) < (48 : Int32) → JC x tb mX7_readSign d [.ref (x.2.2.2 p)] M (jV fun M1 => P M1)) ∧ (¬ (M.1 tx1 j1) < (48 : Int32) → ∃ tx2, M.1 p 9 = nI tx2 ∧ tx2 < 2 ^ 31 ∧ js tb tx2 = (21, 900) ∧ (((57 : Int32) < (M.1 tx2 j1) → JC x tb mX7_readSign d [.ref (x.2.2.2 p)] M (jV fun M2 => P M2)) ∧ (¬ (57 : Int32) < (M.1 tx2 j1) → JC x tb mX7_readDigits d [.ref (x.2.2.2 p)] M (jV fun M3 => P M3))))))) :
    JW x tb mX7_step (d + 1) (jV P) 119 [(0, .ref (x.2.2.2 p))] [] M := by
  refine jw_aload_n (pc := 119) (j := 0) dX7_step_119 rfl rfl ?_
  refine jw_getT (pc := 120) dX7_step_120 a0.1 fl_X7_15 (by decide) rfl ?_
  obtain ⟨tx1, etx1, ltx1, stx1, h⟩ := h
  rw [etx1, nI_clamp ltx1]
  refine jw_aload_n (pc := 123) (j := 0) dX7_step_123 rfl rfl ?_
  refine jw_getI (pc := 124) dX7_step_124 a0.1 fl_X7_40 (by decide) rfl ?_
  obtain ⟨j1, hj1, ej1, h⟩ := h
  refine jw_bald (pc := 127) (j := j1) dX7_step_127 stx1 hj1 ej1 (by decide) ?_
  refine jw_bipush (pc := 128) (v := 48) dX7_step_128 rfl ?_
  refine jw_icmp_lt (pc := 130) (tgt := 154) dX7_step_130 (by decide) (fun c => ?_) (fun c => ?_)
  · replace h := h.1 c
    refine jw_aload_n (pc := 154) (j := 0) dX7_step_154 rfl rfl ?_
    refine jw_callV (pc := 155) (m2 := mX7_readSign) (As := []) (st := []) dX7_step_155 a0.1 (by decide) rfl rfl gm_X7_readSign ml_X7_67 rfl (Nat.le_of_ble_eq_true rfl) (JC.mono h ?_)
    clear h
    rintro M1 _ ⟨rfl, h⟩
    refine jw_st (st' := []) rfl ?_
    exact jw_vret (pc := 158) dX7_step_158 rfl ⟨rfl, h⟩
  · replace h := h.2 c
    refine jw_aload_n (pc := 133) (j := 0) dX7_step_133 rfl rfl ?_
    refine jw_getT (pc := 134) dX7_step_134 a0.1 fl_X7_15 (by decide) rfl ?_
    obtain ⟨tx2, etx2, ltx2, stx2, h⟩ := h
    rw [etx2, nI_clamp ltx2]
    refine jw_aload_n (pc := 137) (j := 0) dX7_step_137 rfl rfl ?_
    refine jw_getI (pc := 138) dX7_step_138 a0.1 fl_X7_40 (by decide) rfl ?_
    refine jw_bald (pc := 141) (j := j1) dX7_step_141 stx2 hj1 ej1 (by decide) ?_
    refine jw_bipush (pc := 142) (v := 57) dX7_step_142 rfl ?_
    refine jw_icmp_gt (pc := 144) (tgt := 154) dX7_step_144 (by decide) (fun c => ?_) (fun c => ?_)
    · replace h := h.1 c
      refine jw_aload_n (pc := 154) (j := 0) dX7_step_154 rfl rfl ?_
      refine jw_callV (pc := 155) (m2 := mX7_readSign) (As := []) (st := []) dX7_step_155 a0.1 (by decide) rfl rfl gm_X7_readSign ml_X7_67 rfl (Nat.le_of_ble_eq_true rfl) (JC.mono h ?_)
      clear h
      rintro M2 _ ⟨rfl, h⟩
      refine jw_st (st' := []) rfl ?_
      exact jw_vret (pc := 158) dX7_step_158 rfl ⟨rfl, h⟩
    · replace h := h.2 c
      refine jw_aload_n (pc := 147) (j := 0) dX7_step_147 rfl rfl ?_
      refine jw_callV (pc := 148) (m2 := mX7_readDigits) (As := []) (st := []) dX7_step_148 a0.1 (by decide) rfl rfl gm_X7_readDigits ml_X7_64 rfl (Nat.le_of_ble_eq_true rfl) (JC.mono h ?_)
      clear h
      rintro M3 _ ⟨rfl, h⟩
      refine jw_st (st' := []) rfl ?_
      refine jw_goto (pc := 151) (tgt := 158) dX7_step_151 (by decide) ?_
      exact jw_vret (pc := 158) dX7_step_158 rfl ⟨rfl, h⟩
set_option maxRecDepth 20000 in
theorem b_X7_readWord {x : jX} {tb : jT} {d : Nat} {M : jM} {P : jM → Prop} {p : Nat} (a0 : aX7 tb p)
    (h : ∀ M1, M1 = jrI M p (upd (M.1 p) 0 (2 : Int32)) → ∀ M2, M2 = jrI M1 p (upd (M1.1 p) 13 (0 : Int32)) → ∀ M3, M3 = jrL M2 p (vp_updL (M2.2 p) 4 (0 : Int64)) → JW x tb mX7_readWord d (jV P) 15 [(0, .ref (x.2.2.2 p))] [] M3) :
    JC x tb mX7_readWord d [.ref (x.2.2.2 p)] M (jV P) := by
  refine JC.of rfl (Nat.le_of_ble_eq_true rfl) ?_
  refine jw_ls (ls' := [(0, .ref (x.2.2.2 p))]) rfl ?_
  refine jw_aload_n (pc := 0) (j := 0) dX7_readWord_0 rfl rfl ?_
  refine jw_iconst (pc := 1) (v := 2) dX7_readWord_1 rfl ?_
  refine jw_putI (pc := 2) dX7_readWord_2 a0.1 fl_X7_58 fw_7_0 (by decide) rfl ?_
  replace h := h _ rfl
  generalize jrI M p (upd (M.1 p) 0 (2 : Int32)) = M1 at h ⊢
  refine jw_aload_n (pc := 5) (j := 0) dX7_readWord_5 rfl rfl ?_
  refine jw_iconst (pc := 6) (v := 0) dX7_readWord_6 rfl ?_
  refine jw_putI (pc := 7) dX7_readWord_7 a0.1 fl_X7_70 fw_7_13 (by decide) rfl ?_
  replace h := h _ rfl
  generalize jrI M1 p (upd (M1.1 p) 13 (0 : Int32)) = M2 at h ⊢
  refine jw_aload_n (pc := 10) (j := 0) dX7_readWord_10 rfl rfl ?_
  refine jw_lconst (pc := 11) (v := 0) dX7_readWord_11 rfl ?_
  refine jw_putJ (pc := 12) dX7_readWord_12 a0.1 fl_X7_73 fw_7_4 (by decide) rfl ?_
  replace h := h _ rfl
  generalize jrL M2 p (vp_updL (M2.2 p) 4 (0 : Int64)) = M3 at h ⊢
  exact jw_sub [0] rfl h
set_option maxRecDepth 20000 in
theorem b_X7_readWord_15 {x : jX} {tb : jT} {d : Nat} {M : jM} {P : jM → Prop} {p : Nat} (a0 : aX7 tb p)
    (h : ((M.1 p 10) ≤ (M.1 p 11) → JW x tb mX7_readWord d (jV P) 105 [(0, .ref (x.2.2.2 p)), (1, .int (0 : Int32))] [] M) ∧ (¬ (M.1 p 10) ≤ (M.1 p 11) → ∃ tx1, M.1 p 9 = nI tx1 ∧ tx1 < 2 ^ 31 ∧ js tb tx1 = (21, 900) ∧ (∃ j1, j1 < 900 ∧ M.1 p 11 = nI j1 ∧ (((M.1 tx1 j1) < (97 : Int32) → JW x tb mX7_readWord d (jV P) 105 [(0, .ref (x.2.2.2 p)), (1, .int (0 : Int32))] [] M) ∧ (¬ (M.1 tx1 j1) < (97 : Int32) → ∃ tx2, M.1 p 9 = nI tx2 ∧ tx2 < 2 ^ 31 ∧ js tb tx2 = (21, 900) ∧ (((122 : Int32) < (M.1 tx2 j1) → JW x tb mX7_readWord d (jV P) 105 [(0, .ref (x.2.2.2 p)), (1, .int (0 : Int32))] [] M) ∧ (¬ (122 : Int32) < (M.1 tx2 j1) → ∀ M1, M1 = jrI M p (upd (M.1 p) 13 ((M.1 p 13) + (1 : Int32))) → ∃ tx3, M1.1 p 9 = nI tx3 ∧ tx3 < 2 ^ 31 ∧ js tb tx3 = (21, 900) ∧ (∃ j2, j2 < 900 ∧ M1.1 p 11 = nI j2 ∧ (∀ M2, M2 = jrL M1 p (vp_updL (M1.2 p) 4 (((M1.2 p 4) <<< ((5 : Int32).toInt64 &&& 63)) ||| ((((M1.1 tx3 j2) - (97 : Int32)) + (1 : Int32)).toInt64))) → ∀ M3, M3 = jrI M2 p (upd (M2.1 p) 11 ((M2.1 p 11) + (1 : Int32))) → JW x tb mX7_readWord d (jV P) 15 [(0, .ref (x.2.2.2 p))] [] M3))))))))) :
    JW x tb mX7_readWord d (jV P) 15 [(0, .ref (x.2.2.2 p))] [] M := by
  refine jw_aload_n (pc := 15) (j := 0) dX7_readWord_15 rfl rfl ?_
  refine jw_getI (pc := 16) dX7_readWord_16 a0.1 fl_X7_40 (by decide) rfl ?_
  refine jw_aload_n (pc := 19) (j := 0) dX7_readWord_19 rfl rfl ?_
  refine jw_getI (pc := 20) dX7_readWord_20 a0.1 fl_X7_37 (by decide) rfl ?_
  refine jw_icmp_ge (pc := 23) (tgt := 103) dX7_readWord_23 (by decide) (fun c => ?_) (fun c => ?_)
  · replace h := h.1 c
    refine jw_iconst (pc := 103) (v := 0) dX7_readWord_103 rfl ?_
    refine jw_istore_n (pc := 104) (ls' := [(1, .int (0 : Int32)), (0, .ref (x.2.2.2 p))]) dX7_readWord_104 rfl (by decide) rfl ?_
    exact jw_sub [1, 0] rfl h
  · replace h := h.2 c
    refine jw_aload_n (pc := 26) (j := 0) dX7_readWord_26 rfl rfl ?_
    refine jw_getT (pc := 27) dX7_readWord_27 a0.1 fl_X7_15 (by decide) rfl ?_
    obtain ⟨tx1, etx1, ltx1, stx1, h⟩ := h
    rw [etx1, nI_clamp ltx1]
    refine jw_aload_n (pc := 30) (j := 0) dX7_readWord_30 rfl rfl ?_
    refine jw_getI (pc := 31) dX7_readWord_31 a0.1 fl_X7_40 (by decide) rfl ?_
    obtain ⟨j1, hj1, ej1, h⟩ := h
    refine jw_bald (pc := 34) (j := j1) dX7_readWord_34 stx1 hj1 ej1 (by decide) ?_
    refine jw_bipush (pc := 35) (v := 97) dX7_readWord_35 rfl ?_
    refine jw_icmp_lt (pc := 37) (tgt := 103) dX7_readWord_37 (by decide) (fun c => ?_) (fun c => ?_)
    · replace h := h.1 c
      refine jw_iconst (pc := 103) (v := 0) dX7_readWord_103 rfl ?_
      refine jw_istore_n (pc := 104) (ls' := [(1, .int (0 : Int32)), (0, .ref (x.2.2.2 p))]) dX7_readWord_104 rfl (by decide) rfl ?_
      exact jw_sub [1, 0] rfl h
    · replace h := h.2 c
      refine jw_aload_n (pc := 40) (j := 0) dX7_readWord_40 rfl rfl ?_
      refine jw_getT (pc := 41) dX7_readWord_41 a0.1 fl_X7_15 (by decide) rfl ?_
      obtain ⟨tx2, etx2, ltx2, stx2, h⟩ := h
      rw [etx2, nI_clamp ltx2]
      refine jw_aload_n (pc := 44) (j := 0) dX7_readWord_44 rfl rfl ?_
      refine jw_getI (pc := 45) dX7_readWord_45 a0.1 fl_X7_40 (by decide) rfl ?_
      refine jw_bald (pc := 48) (j := j1) dX7_readWord_48 stx2 hj1 ej1 (by decide) ?_
      refine jw_bipush (pc := 49) (v := 122) dX7_readWord_49 rfl ?_
      refine jw_icmp_gt (pc := 51) (tgt := 103) dX7_readWord_51 (by decide) (fun c => ?_) (fun c => ?_)
      · replace h := h.1 c
        refine jw_iconst (pc := 103) (v := 0) dX7_readWord_103 rfl ?_
        refine jw_istore_n (pc := 104) (ls' := [(1, .int (0 : Int32)), (0, .ref (x.2.2.2 p))]) dX7_readWord_104 rfl (by decide) rfl ?_
        exact jw_sub [1, 0] rfl h
      · replace h := h.2 c
        refine jw_aload_n (pc := 54) (j := 0) dX7_readWord_54 rfl rfl ?_
        refine jw_dup (pc := 55) dX7_readWord_55 rfl ?_
        refine jw_getI (pc := 56) dX7_readWord_56 a0.1 fl_X7_70 (by decide) rfl ?_
        refine jw_iconst (pc := 59) (v := 1) dX7_readWord_59 rfl ?_
        refine jw_iadd (pc := 60) dX7_readWord_60 ?_
        refine jw_putI (pc := 61) dX7_readWord_61 a0.1 fl_X7_70 fw_7_13 (by decide) rfl ?_
        replace h := h _ rfl
        generalize jrI M p (upd (M.1 p) 13 ((M.1 p 13) + (1 : Int32))) = M1 at h ⊢
        refine jw_aload_n (pc := 64) (j := 0) dX7_readWord_64 rfl rfl ?_
        refine jw_aload_n (pc := 65) (j := 0) dX7_readWord_65 rfl rfl ?_
        refine jw_getL (pc := 66) dX7_readWord_66 a0.1 fl_X7_73 (by decide) rfl ?_
        refine jw_iconst (pc := 69) (v := 5) dX7_readWord_69 rfl ?_
        refine jw_lshl (pc := 70) dX7_readWord_70 ?_
        refine jw_aload_n (pc := 71) (j := 0) dX7_readWord_71 rfl rfl ?_
        refine jw_getT (pc := 72) dX7_readWord_72 a0.1 fl_X7_15 (by decide) rfl ?_
        obtain ⟨tx3, etx3, ltx3, stx3, h⟩ := h
        rw [etx3, nI_clamp ltx3]
        refine jw_aload_n (pc := 75) (j := 0) dX7_readWord_75 rfl rfl ?_
        refine jw_getI (pc := 76) dX7_readWord_76 a0.1 fl_X7_40 (by decide) rfl ?_
        obtain ⟨j2, hj2, ej2, h⟩ := h
        refine jw_bald (pc := 79) (j := j2) dX7_readWord_79 stx3 hj2 ej2 (by decide) ?_
        refine jw_bipush (pc := 80) (v := 97) dX7_readWord_80 rfl ?_
        refine jw_isub (pc := 82) dX7_readWord_82 ?_
        refine jw_iconst (pc := 83) (v := 1) dX7_readWord_83 rfl ?_
        refine jw_iadd (pc := 84) dX7_readWord_84 ?_
        refine jw_i2l (pc := 85) dX7_readWord_85 ?_
        refine jw_lor (pc := 86) dX7_readWord_86 ?_
        refine jw_putJ (pc := 87) dX7_readWord_87 a0.1 fl_X7_73 fw_7_4 (by decide) rfl ?_
        replace h := h _ rfl
        generalize jrL M1 p (vp_updL (M1.2 p) 4 (((M1.2 p 4) <<< ((5 : Int32).toInt64 &&& 63)) ||| ((((M1.1 tx3 j2) - (97 : Int32)) + (1 : Int32)).toInt64))) = M2 at h ⊢
        refine jw_aload_n (pc := 90) (j := 0) dX7_readWord_90 rfl rfl ?_
        refine jw_dup (pc := 91) dX7_readWord_91 rfl ?_
        refine jw_getI (pc := 92) dX7_readWord_92 a0.1 fl_X7_40 (by decide) rfl ?_
        refine jw_iconst (pc := 95) (v := 1) dX7_readWord_95 rfl ?_
        refine jw_iadd (pc := 96) dX7_readWord_96 ?_
        refine jw_putI (pc := 97) dX7_readWord_97 a0.1 fl_X7_40 fw_7_11 (by decide) rfl ?_
        replace h := h _ rfl
        generalize jrI M2 p (upd (M2.1 p) 11 ((M2.1 p 11) + (1 : Int32))) = M3 at h ⊢
        refine jw_goto (pc := 100) (tgt := 15) dX7_readWord_100 (by decide) ?_
        exact jw_sub [0] rfl h
set_option maxRecDepth 20000 in
theorem b_X7_readWord_105 {x : jX} {tb : jT} {d : Nat} {M : jM} {P : jM → Prop} {p : Nat} {l1 : Int32} (a0 : aX7 tb p)
    (h : ((26 : Int32) ≤ l1 → P M) ∧ (¬ (26 : Int32) ≤ l1 → ((8 : Int32) < (M.1 p 13) → P M) ∧ (¬ (8 : Int32) < (M.1 p 13) → ∃ j1, j1 < 26 ∧ l1 = nI j1 ∧ ((¬ (M.2 (p + 1) j1) = (M.2 p 4) → JW x tb mX7_readWord d (jV P) 105 [(0, .ref (x.2.2.2 p)), (1, .int (l1 + 1))] [] M) ∧ ((M.2 (p + 1) j1) = (M.2 p 4) → ∀ M1, M1 = jrI M p (upd (M.1 p) 3 l1) → JW x tb mX7_readWord d (jV P) 105 [(0, .ref (x.2.2.2 p)), (1, .int (l1 + 1))] [] M1))))) :
    JW x tb mX7_readWord d (jV P) 105 [(0, .ref (x.2.2.2 p)), (1, .int l1)] [] M := by
  refine jw_iload_n (pc := 105) (j := 1) dX7_readWord_105 rfl rfl ?_
  refine jw_bipush (pc := 106) (v := 26) dX7_readWord_106 rfl ?_
  refine jw_icmp_ge (pc := 108) (tgt := 145) dX7_readWord_108 (by decide) (fun c => ?_) (fun c => ?_)
  · replace h := h.1 c
    exact jw_vret (pc := 145) dX7_readWord_145 rfl ⟨rfl, h⟩
  · replace h := h.2 c
    refine jw_aload_n (pc := 111) (j := 0) dX7_readWord_111 rfl rfl ?_
    refine jw_getI (pc := 112) dX7_readWord_112 a0.1 fl_X7_70 (by decide) rfl ?_
    refine jw_bipush (pc := 115) (v := 8) dX7_readWord_115 rfl ?_
    refine jw_icmp_gt (pc := 117) (tgt := 145) dX7_readWord_117 (by decide) (fun c => ?_) (fun c => ?_)
    · replace h := h.1 c
      exact jw_vret (pc := 145) dX7_readWord_145 rfl ⟨rfl, h⟩
    · replace h := h.2 c
      refine jw_aload_n (pc := 120) (j := 0) dX7_readWord_120 rfl rfl ?_
      refine jw_getR (pc := 121) (r := p + 1) dX7_readWord_121 a0.1 fl_X7_9 (by decide) rfl rfl ?_
      refine jw_iload_n (pc := 124) (j := 1) dX7_readWord_124 rfl rfl ?_
      obtain ⟨j1, hj1, ej1, h⟩ := h
      refine jw_lald (pc := 125) (j := j1) dX7_readWord_125 a0.2.1 hj1 ej1 (by decide) ?_
      refine jw_aload_n (pc := 126) (j := 0) dX7_readWord_126 rfl rfl ?_
      refine jw_getL (pc := 127) dX7_readWord_127 a0.1 fl_X7_73 (by decide) rfl ?_
      refine jw_lcmp (pc := 130) dX7_readWord_130 ?_
      refine jw_if_ne (pc := 131) (tgt := 139) dX7_readWord_131 (by decide) (fun c => ?_) (fun c => ?_)
      · replace h := h.1 (fun z => c ((jcmp_eq _ _).mpr z))
        refine jw_iinc (pc := 139) (j := 1) (u := l1 + 1) (ls' := [(1, .int (l1 + 1)), (0, .ref (x.2.2.2 p))]) dX7_readWord_139 rfl rfl (by decide) rfl ?_
        refine jw_goto (pc := 142) (tgt := 105) dX7_readWord_142 (by decide) ?_
        exact jw_sub [1, 0] rfl h
      · replace h := h.2 ((jcmp_eq _ _).mp c)
        refine jw_aload_n (pc := 134) (j := 0) dX7_readWord_134 rfl rfl ?_
        refine jw_iload_n (pc := 135) (j := 1) dX7_readWord_135 rfl rfl ?_
        refine jw_putI (pc := 136) dX7_readWord_136 a0.1 fl_X7_55 fw_7_3 (by decide) rfl ?_
        replace h := h _ rfl
        generalize jrI M p (upd (M.1 p) 3 l1) = M1 at h ⊢
        refine jw_iinc (pc := 139) (j := 1) (u := l1 + 1) (ls' := [(1, .int (l1 + 1)), (0, .ref (x.2.2.2 p))]) dX7_readWord_139 rfl rfl (by decide) rfl ?_
        refine jw_goto (pc := 142) (tgt := 105) dX7_readWord_142 (by decide) ?_
        exact jw_sub [1, 0] rfl h
set_option maxRecDepth 20000 in
theorem b_X7_readDigits {x : jX} {tb : jT} {d : Nat} {M : jM} {P : jM → Prop} {p : Nat} (a0 : aX7 tb p)
    (h : ∀ M1, M1 = jrI M p (upd (M.1 p) 1 (0 : Int32)) → JW x tb mX7_readDigits d (jV P) 7 [(0, .ref (x.2.2.2 p)), (1, .int (0 : Int32))] [] M1) :
    JC x tb mX7_readDigits d [.ref (x.2.2.2 p)] M (jV P) := by
  refine JC.of rfl (Nat.le_of_ble_eq_true rfl) ?_
  refine jw_ls (ls' := [(0, .ref (x.2.2.2 p))]) rfl ?_
  refine jw_aload_n (pc := 0) (j := 0) dX7_readDigits_0 rfl rfl ?_
  refine jw_iconst (pc := 1) (v := 0) dX7_readDigits_1 rfl ?_
  refine jw_putI (pc := 2) dX7_readDigits_2 a0.1 fl_X7_77 fw_7_1 (by decide) rfl ?_
  replace h := h _ rfl
  generalize jrI M p (upd (M.1 p) 1 (0 : Int32)) = M1 at h ⊢
  refine jw_iconst (pc := 5) (v := 0) dX7_readDigits_5 rfl ?_
  refine jw_istore_n (pc := 6) (ls' := [(1, .int (0 : Int32)), (0, .ref (x.2.2.2 p))]) dX7_readDigits_6 rfl (by decide) rfl ?_
  exact jw_sub [1, 0] rfl h
set_option maxRecDepth 20000 in
theorem b_X7_readDigits_7 {x : jX} {tb : jT} {d : Nat} {M : jM} {P : jM → Prop} {p : Nat} {l1 : Int32} (a0 : aX7 tb p)
    (h : ((M.1 p 10) ≤ (M.1 p 11) → JW x tb mX7_readDigits d (jV P) 86 [(0, .ref (x.2.2.2 p)), (1, .int l1)] [] M) ∧ (¬ (M.1 p 10) ≤ (M.1 p 11) → ∃ tx1, M.1 p 9 = nI tx1 ∧ tx1 < 2 ^ 31 ∧ js tb tx1 = (21, 900) ∧ (∃ j1, j1 < 900 ∧ M.1 p 11 = nI j1 ∧ (((M.1 tx1 j1) < (48 : Int32) → JW x tb mX7_readDigits d (jV P) 86 [(0, .ref (x.2.2.2 p)), (1, .int l1)] [] M) ∧ (¬ (M.1 tx1 j1) < (48 : Int32) → ∃ tx2, M.1 p 9 = nI tx2 ∧ tx2 < 2 ^ 31 ∧ js tb tx2 = (21, 900) ∧ (((57 : Int32) < (M.1 tx2 j1) → JW x tb mX7_readDigits d (jV P) 86 [(0, .ref (x.2.2.2 p)), (1, .int l1)] [] M) ∧ (¬ (57 : Int32) < (M.1 tx2 j1) → ∃ tx3, M.1 p 9 = nI tx3 ∧ tx3 < 2 ^ 31 ∧ js tb tx3 = (21, 900) ∧ (∀ M1, M1 = jrI M p (upd (M.1 p) 1 ((((M.1 p 1) * (10 : Int32)) + (M.1 tx3 j1)) - (48 : Int32))) → ∀ M2, M2 = jrI M1 p (upd (M1.1 p) 11 ((M1.1 p 11) + (1 : Int32))) → JW x tb mX7_readDigits d (jV P) 7 [(0, .ref (x.2.2.2 p)), (1, .int (l1 + 1))] [] M2)))))))) :
    JW x tb mX7_readDigits d (jV P) 7 [(0, .ref (x.2.2.2 p)), (1, .int l1)] [] M := by
  refine jw_aload_n (pc := 7) (j := 0) dX7_readDigits_7 rfl rfl ?_
  refine jw_getI (pc := 8) dX7_readDigits_8 a0.1 fl_X7_40 (by decide) rfl ?_
  refine jw_aload_n (pc := 11) (j := 0) dX7_readDigits_11 rfl rfl ?_
  refine jw_getI (pc := 12) dX7_readDigits_12 a0.1 fl_X7_37 (by decide) rfl ?_
  refine jw_icmp_ge (pc := 15) (tgt := 86) dX7_readDigits_15 (by decide) (fun c => ?_) (fun c => ?_)
  · replace h := h.1 c
    exact jw_sub [0, 1] rfl h
  · replace h := h.2 c
    refine jw_aload_n (pc := 18) (j := 0) dX7_readDigits_18 rfl rfl ?_
    refine jw_getT (pc := 19) dX7_readDigits_19 a0.1 fl_X7_15 (by decide) rfl ?_
    obtain ⟨tx1, etx1, ltx1, stx1, h⟩ := h
    rw [etx1, nI_clamp ltx1]
    refine jw_aload_n (pc := 22) (j := 0) dX7_readDigits_22 rfl rfl ?_
    refine jw_getI (pc := 23) dX7_readDigits_23 a0.1 fl_X7_40 (by decide) rfl ?_
    obtain ⟨j1, hj1, ej1, h⟩ := h
    refine jw_bald (pc := 26) (j := j1) dX7_readDigits_26 stx1 hj1 ej1 (by decide) ?_
    refine jw_bipush (pc := 27) (v := 48) dX7_readDigits_27 rfl ?_
    refine jw_icmp_lt (pc := 29) (tgt := 86) dX7_readDigits_29 (by decide) (fun c => ?_) (fun c => ?_)
    · replace h := h.1 c
      exact jw_sub [0, 1] rfl h
    · replace h := h.2 c
      refine jw_aload_n (pc := 32) (j := 0) dX7_readDigits_32 rfl rfl ?_
      refine jw_getT (pc := 33) dX7_readDigits_33 a0.1 fl_X7_15 (by decide) rfl ?_
      obtain ⟨tx2, etx2, ltx2, stx2, h⟩ := h
      rw [etx2, nI_clamp ltx2]
      refine jw_aload_n (pc := 36) (j := 0) dX7_readDigits_36 rfl rfl ?_
      refine jw_getI (pc := 37) dX7_readDigits_37 a0.1 fl_X7_40 (by decide) rfl ?_
      refine jw_bald (pc := 40) (j := j1) dX7_readDigits_40 stx2 hj1 ej1 (by decide) ?_
      refine jw_bipush (pc := 41) (v := 57) dX7_readDigits_41 rfl ?_
      refine jw_icmp_gt (pc := 43) (tgt := 86) dX7_readDigits_43 (by decide) (fun c => ?_) (fun c => ?_)
      · replace h := h.1 c
        exact jw_sub [0, 1] rfl h
      · replace h := h.2 c
        refine jw_iinc (pc := 46) (j := 1) (u := l1 + 1) (ls' := [(1, .int (l1 + 1)), (0, .ref (x.2.2.2 p))]) dX7_readDigits_46 rfl rfl (by decide) rfl ?_
        refine jw_aload_n (pc := 49) (j := 1) dX7_readDigits_49 rfl rfl ?_
        refine jw_aload_n (pc := 50) (j := 1) dX7_readDigits_50 rfl rfl ?_
        refine jw_getI (pc := 51) dX7_readDigits_51 a0.1 fl_X7_77 (by decide) rfl ?_
        refine jw_bipush (pc := 54) (v := 10) dX7_readDigits_54 rfl ?_
        refine jw_imul (pc := 56) dX7_readDigits_56 ?_
        refine jw_aload_n (pc := 57) (j := 1) dX7_readDigits_57 rfl rfl ?_
        refine jw_getT (pc := 58) dX7_readDigits_58 a0.1 fl_X7_15 (by decide) rfl ?_
        obtain ⟨tx3, etx3, ltx3, stx3, h⟩ := h
        rw [etx3, nI_clamp ltx3]
        refine jw_aload_n (pc := 61) (j := 1) dX7_readDigits_61 rfl rfl ?_
        refine jw_getI (pc := 62) dX7_readDigits_62 a0.1 fl_X7_40 (by decide) rfl ?_
        refine jw_bald (pc := 65) (j := j1) dX7_readDigits_65 stx3 hj1 ej1 (by decide) ?_
        refine jw_iadd (pc := 66) dX7_readDigits_66 ?_
        refine jw_bipush (pc := 67) (v := 48) dX7_readDigits_67 rfl ?_
        refine jw_isub (pc := 69) dX7_readDigits_69 ?_
        refine jw_putI (pc := 70) dX7_readDigits_70 a0.1 fl_X7_77 fw_7_1 (by decide) rfl ?_
        replace h := h _ rfl
        generalize jrI M p (upd (M.1 p) 1 ((((M.1 p 1) * (10 : Int32)) + (M.1 tx3 j1)) - (48 : Int32))) = M1 at h ⊢
        refine jw_aload_n (pc := 73) (j := 1) dX7_readDigits_73 rfl rfl ?_
        refine jw_dup (pc := 74) dX7_readDigits_74 rfl ?_
        refine jw_getI (pc := 75) dX7_readDigits_75 a0.1 fl_X7_40 (by decide) rfl ?_
        refine jw_iconst (pc := 78) (v := 1) dX7_readDigits_78 rfl ?_
        refine jw_iadd (pc := 79) dX7_readDigits_79 ?_
        refine jw_putI (pc := 80) dX7_readDigits_80 a0.1 fl_X7_40 fw_7_11 (by decide) rfl ?_
        replace h := h _ rfl
        generalize jrI M1 p (upd (M1.1 p) 11 ((M1.1 p 11) + (1 : Int32))) = M2 at h ⊢
        refine jw_goto (pc := 83) (tgt := 7) dX7_readDigits_83 (by decide) ?_
        exact jw_sub [1, 0] rfl h
set_option maxRecDepth 20000 in
theorem b_X7_readDigits_86 {x : jX} {tb : jT} {d : Nat} {M : jM} {P : jM → Prop} {p : Nat} {l1 : Int32} (a0 : aX7 tb p)
    (h : ((4 : Int32) < l1 → ∀ M1, M1 = jrI M p (upd (M.1 p) 0 (1 : Int32)) → P M1) ∧ (¬ (4 : Int32) < l1 → ∀ M2, M2 = jrI M p (upd (M.1 p) 0 (3 : Int32)) → P M2)) :
    JW x tb mX7_readDigits d (jV P) 86 [(0, .ref (x.2.2.2 p)), (1, .int l1)] [] M := by
  refine jw_aload_n (pc := 86) (j := 0) dX7_readDigits_86 rfl rfl ?_
  refine jw_iload_n (pc := 87) (j := 1) dX7_readDigits_87 rfl rfl ?_
  refine jw_iconst (pc := 88) (v := 4) dX7_readDigits_88 rfl ?_
  refine jw_icmp_gt (pc := 89) (tgt := 96) dX7_readDigits_89 (by decide) (fun c => ?_) (fun c => ?_)
  · replace h := h.1 c
    refine jw_iconst (pc := 96) (v := 1) dX7_readDigits_96 rfl ?_
    refine jw_putI (pc := 97) dX7_readDigits_97 a0.1 fl_X7_58 fw_7_0 (by decide) rfl ?_
    replace h := h _ rfl
    generalize jrI M p (upd (M.1 p) 0 (1 : Int32)) = M1 at h ⊢
    exact jw_vret (pc := 100) dX7_readDigits_100 rfl ⟨rfl, h⟩
  · replace h := h.2 c
    refine jw_iconst (pc := 92) (v := 3) dX7_readDigits_92 rfl ?_
    refine jw_goto (pc := 93) (tgt := 97) dX7_readDigits_93 (by decide) ?_
    refine jw_putI (pc := 97) dX7_readDigits_97 a0.1 fl_X7_58 fw_7_0 (by decide) rfl ?_
    replace h := h _ rfl
    generalize jrI M p (upd (M.1 p) 0 (3 : Int32)) = M2 at h ⊢
    exact jw_vret (pc := 100) dX7_readDigits_100 rfl ⟨rfl, h⟩
set_option maxRecDepth 20000 in
theorem b_X7_readSign {x : jX} {tb : jT} {d : Nat} {M : jM} {P : jM → Prop} {p : Nat} (a0 : aX7 tb p)
    (h : ∃ tx1, M.1 p 9 = nI tx1 ∧ tx1 < 2 ^ 31 ∧ js tb tx1 = (21, 900) ∧ (∃ j1, j1 < 900 ∧ M.1 p 11 = nI j1 ∧ (∀ M1, M1 = jrI M p (upd (M.1 p) 2 (M.1 tx1 j1)) → ((M1.1 p 2) = (59 : Int32) → JW x tb mX7_readSign d (jV P) 54 [(0, .ref (x.2.2.2 p))] [.int (1 : Int32)] M1) ∧ (¬ (M1.1 p 2) = (59 : Int32) → ((M1.1 p 2) = (60 : Int32) → JW x tb mX7_readSign d (jV P) 54 [(0, .ref (x.2.2.2 p))] [.int (1 : Int32)] M1) ∧ (¬ (M1.1 p 2) = (60 : Int32) → ((M1.1 p 2) = (62 : Int32) → JW x tb mX7_readSign d (jV P) 54 [(0, .ref (x.2.2.2 p))] [.int (1 : Int32)] M1) ∧ (¬ (M1.1 p 2) = (62 : Int32) → (¬ (M1.1 p 2) = (61 : Int32) → JW x tb mX7_readSign d (jV P) 54 [(0, .ref (x.2.2.2 p))] [.int (0 : Int32)] M1) ∧ ((M1.1 p 2) = (61 : Int32) → JW x tb mX7_readSign d (jV P) 54 [(0, .ref (x.2.2.2 p))] [.int (1 : Int32)] M1))))))) :
    JC x tb mX7_readSign d [.ref (x.2.2.2 p)] M (jV P) := by
  refine JC.of rfl (Nat.le_of_ble_eq_true rfl) ?_
  refine jw_ls (ls' := [(0, .ref (x.2.2.2 p))]) rfl ?_
  refine jw_aload_n (pc := 0) (j := 0) dX7_readSign_0 rfl rfl ?_
  refine jw_aload_n (pc := 1) (j := 0) dX7_readSign_1 rfl rfl ?_
  refine jw_getT (pc := 2) dX7_readSign_2 a0.1 fl_X7_15 (by decide) rfl ?_
  obtain ⟨tx1, etx1, ltx1, stx1, h⟩ := h
  rw [etx1, nI_clamp ltx1]
  refine jw_aload_n (pc := 5) (j := 0) dX7_readSign_5 rfl rfl ?_
  refine jw_getI (pc := 6) dX7_readSign_6 a0.1 fl_X7_40 (by decide) rfl ?_
  obtain ⟨j1, hj1, ej1, h⟩ := h
  refine jw_bald (pc := 9) (j := j1) dX7_readSign_9 stx1 hj1 ej1 (by decide) ?_
  refine jw_putI (pc := 10) dX7_readSign_10 a0.1 fl_X7_80 fw_7_2 (by decide) rfl ?_
  replace h := h _ rfl
  generalize jrI M p (upd (M.1 p) 2 (M.1 tx1 j1)) = M1 at h ⊢
  refine jw_aload_n (pc := 13) (j := 0) dX7_readSign_13 rfl rfl ?_
  refine jw_getI (pc := 14) dX7_readSign_14 a0.1 fl_X7_80 (by decide) rfl ?_
  refine jw_bipush (pc := 17) (v := 59) dX7_readSign_17 rfl ?_
  refine jw_icmp_eq (pc := 19) (tgt := 49) dX7_readSign_19 (by decide) (fun c => ?_) (fun c => ?_)
  · replace h := h.1 c
    refine jw_iconst (pc := 49) (v := 1) dX7_readSign_49 rfl ?_
    refine jw_goto (pc := 50) (tgt := 54) dX7_readSign_50 (by decide) ?_
    exact jw_sub [0] rfl h
  · replace h := h.2 c
    refine jw_aload_n (pc := 22) (j := 0) dX7_readSign_22 rfl rfl ?_
    refine jw_getI (pc := 23) dX7_readSign_23 a0.1 fl_X7_80 (by decide) rfl ?_
    refine jw_bipush (pc := 26) (v := 60) dX7_readSign_26 rfl ?_
    refine jw_icmp_eq (pc := 28) (tgt := 49) dX7_readSign_28 (by decide) (fun c => ?_) (fun c => ?_)
    · replace h := h.1 c
      refine jw_iconst (pc := 49) (v := 1) dX7_readSign_49 rfl ?_
      refine jw_goto (pc := 50) (tgt := 54) dX7_readSign_50 (by decide) ?_
      exact jw_sub [0] rfl h
    · replace h := h.2 c
      refine jw_aload_n (pc := 31) (j := 0) dX7_readSign_31 rfl rfl ?_
      refine jw_getI (pc := 32) dX7_readSign_32 a0.1 fl_X7_80 (by decide) rfl ?_
      refine jw_bipush (pc := 35) (v := 62) dX7_readSign_35 rfl ?_
      refine jw_icmp_eq (pc := 37) (tgt := 49) dX7_readSign_37 (by decide) (fun c => ?_) (fun c => ?_)
      · replace h := h.1 c
        refine jw_iconst (pc := 49) (v := 1) dX7_readSign_49 rfl ?_
        refine jw_goto (pc := 50) (tgt := 54) dX7_readSign_50 (by decide) ?_
        exact jw_sub [0] rfl h
      · replace h := h.2 c
        refine jw_aload_n (pc := 40) (j := 0) dX7_readSign_40 rfl rfl ?_
        refine jw_getI (pc := 41) dX7_readSign_41 a0.1 fl_X7_80 (by decide) rfl ?_
        refine jw_bipush (pc := 44) (v := 61) dX7_readSign_44 rfl ?_
        refine jw_icmp_ne (pc := 46) (tgt := 53) dX7_readSign_46 (by decide) (fun c => ?_) (fun c => ?_)
        · replace h := h.1 c
          refine jw_iconst (pc := 53) (v := 0) dX7_readSign_53 rfl ?_
          exact jw_sub [0] rfl h
        · replace h := h.2 c
          refine jw_iconst (pc := 49) (v := 1) dX7_readSign_49 rfl ?_
          refine jw_goto (pc := 50) (tgt := 54) dX7_readSign_50 (by decide) ?_
          exact jw_sub [0] rfl h
set_option maxRecDepth 20000 in
theorem b_X7_readSign_54 {x : jX} {tb : jT} {d : Nat} {M : jM} {P : jM → Prop} {p : Nat} {k0 : Int32} (a0 : aX7 tb p)
    (h : (k0 = 0 → ∀ M1, M1 = jrI M p (upd (M.1 p) 0 (1 : Int32)) → ∀ M2, M2 = jrI M1 p (upd (M1.1 p) 11 ((M1.1 p 11) + (1 : Int32))) → P M2) ∧ (¬ k0 = 0 → ∀ M3, M3 = jrI M p (upd (M.1 p) 0 (4 : Int32)) → ∀ M4, M4 = jrI M3 p (upd (M3.1 p) 11 ((M3.1 p 11) + (1 : Int32))) → P M4)) :
    JW x tb mX7_readSign d (jV P) 54 [(0, .ref (x.2.2.2 p))] [.int k0] M := by
  refine jw_istore_n (pc := 54) (ls' := [(1, .int k0), (0, .ref (x.2.2.2 p))]) dX7_readSign_54 rfl (by decide) rfl ?_
  refine jw_aload_n (pc := 55) (j := 1) dX7_readSign_55 rfl rfl ?_
  refine jw_iload_n (pc := 56) (j := 0) dX7_readSign_56 rfl rfl ?_
  refine jw_if_eq (pc := 57) (tgt := 64) dX7_readSign_57 (by decide) (fun c => ?_) (fun c => ?_)
  · replace h := h.1 c
    refine jw_iconst (pc := 64) (v := 1) dX7_readSign_64 rfl ?_
    refine jw_putI (pc := 65) dX7_readSign_65 a0.1 fl_X7_58 fw_7_0 (by decide) rfl ?_
    replace h := h _ rfl
    generalize jrI M p (upd (M.1 p) 0 (1 : Int32)) = M1 at h ⊢
    refine jw_aload_n (pc := 68) (j := 1) dX7_readSign_68 rfl rfl ?_
    refine jw_dup (pc := 69) dX7_readSign_69 rfl ?_
    refine jw_getI (pc := 70) dX7_readSign_70 a0.1 fl_X7_40 (by decide) rfl ?_
    refine jw_iconst (pc := 73) (v := 1) dX7_readSign_73 rfl ?_
    refine jw_iadd (pc := 74) dX7_readSign_74 ?_
    refine jw_putI (pc := 75) dX7_readSign_75 a0.1 fl_X7_40 fw_7_11 (by decide) rfl ?_
    replace h := h _ rfl
    generalize jrI M1 p (upd (M1.1 p) 11 ((M1.1 p 11) + (1 : Int32))) = M2 at h ⊢
    exact jw_vret (pc := 78) dX7_readSign_78 rfl ⟨rfl, h⟩
  · replace h := h.2 c
    refine jw_iconst (pc := 60) (v := 4) dX7_readSign_60 rfl ?_
    refine jw_goto (pc := 61) (tgt := 65) dX7_readSign_61 (by decide) ?_
    refine jw_putI (pc := 65) dX7_readSign_65 a0.1 fl_X7_58 fw_7_0 (by decide) rfl ?_
    replace h := h _ rfl
    generalize jrI M p (upd (M.1 p) 0 (4 : Int32)) = M3 at h ⊢
    refine jw_aload_n (pc := 68) (j := 1) dX7_readSign_68 rfl rfl ?_
    refine jw_dup (pc := 69) dX7_readSign_69 rfl ?_
    refine jw_getI (pc := 70) dX7_readSign_70 a0.1 fl_X7_40 (by decide) rfl ?_
    refine jw_iconst (pc := 73) (v := 1) dX7_readSign_73 rfl ?_
    refine jw_iadd (pc := 74) dX7_readSign_74 ?_
    refine jw_putI (pc := 75) dX7_readSign_75 a0.1 fl_X7_40 fw_7_11 (by decide) rfl ?_
    replace h := h _ rfl
    generalize jrI M3 p (upd (M3.1 p) 11 ((M3.1 p 11) + (1 : Int32))) = M4 at h ⊢
    exact jw_vret (pc := 78) dX7_readSign_78 rfl ⟨rfl, h⟩
set_option maxRecDepth 20000 in
theorem b_X7_refuse {x : jX} {tb : jT} {d : Nat} {M : jM} {P : jM → Bool → Prop} {p : Nat} {a1 : Int32} (a0 : aX7 tb p)
    (h : (¬ (M.1 p 0) = (1 : Int32) → ∀ M1, M1 = jrI M p (upd (M.1 p) 6 a1) → ∀ M2, M2 = jrI M1 p (upd (M1.1 p) 7 (M1.1 p 12)) → P M2 false) ∧ ((M.1 p 0) = (1 : Int32) → ∀ M3, M3 = jrI M p (upd (M.1 p) 6 (1 : Int32)) → ∀ M4, M4 = jrI M3 p (upd (M3.1 p) 7 (M3.1 p 12)) → P M4 false)) :
    JC x tb mX7_refuse d [.ref (x.2.2.2 p), .int a1] M (jZ P) := by
  refine JC.of rfl (Nat.le_of_ble_eq_true rfl) ?_
  refine jw_ls (ls' := [(0, .ref (x.2.2.2 p)), (1, .int a1)]) rfl ?_
  refine jw_aload_n (pc := 0) (j := 0) dX7_refuse_0 rfl rfl ?_
  refine jw_aload_n (pc := 1) (j := 0) dX7_refuse_1 rfl rfl ?_
  refine jw_getI (pc := 2) dX7_refuse_2 a0.1 fl_X7_58 (by decide) rfl ?_
  refine jw_iconst (pc := 5) (v := 1) dX7_refuse_5 rfl ?_
  refine jw_icmp_ne (pc := 6) (tgt := 13) dX7_refuse_6 (by decide) (fun c => ?_) (fun c => ?_)
  · replace h := h.1 c
    refine jw_iload_n (pc := 13) (j := 1) dX7_refuse_13 rfl rfl ?_
    refine jw_putI (pc := 14) dX7_refuse_14 a0.1 fl_X7_43 fw_7_6 (by decide) rfl ?_
    replace h := h _ rfl
    generalize jrI M p (upd (M.1 p) 6 a1) = M1 at h ⊢
    refine jw_aload_n (pc := 17) (j := 0) dX7_refuse_17 rfl rfl ?_
    refine jw_aload_n (pc := 18) (j := 0) dX7_refuse_18 rfl rfl ?_
    refine jw_getI (pc := 19) dX7_refuse_19 a0.1 fl_X7_52 (by decide) rfl ?_
    refine jw_putI (pc := 22) dX7_refuse_22 a0.1 fl_X7_46 fw_7_7 (by decide) rfl ?_
    replace h := h _ rfl
    generalize jrI M1 p (upd (M1.1 p) 7 (M1.1 p 12)) = M2 at h ⊢
    refine jw_iconst (pc := 25) (v := 0) dX7_refuse_25 rfl ?_
    exact jw_zret (pc := 26) dX7_refuse_26 rfl (Or.inl rfl) ⟨false, rfl, h⟩
  · replace h := h.2 c
    refine jw_iconst (pc := 9) (v := 1) dX7_refuse_9 rfl ?_
    refine jw_goto (pc := 10) (tgt := 14) dX7_refuse_10 (by decide) ?_
    refine jw_putI (pc := 14) dX7_refuse_14 a0.1 fl_X7_43 fw_7_6 (by decide) rfl ?_
    replace h := h _ rfl
    generalize jrI M p (upd (M.1 p) 6 (1 : Int32)) = M3 at h ⊢
    refine jw_aload_n (pc := 17) (j := 0) dX7_refuse_17 rfl rfl ?_
    refine jw_aload_n (pc := 18) (j := 0) dX7_refuse_18 rfl rfl ?_
    refine jw_getI (pc := 19) dX7_refuse_19 a0.1 fl_X7_52 (by decide) rfl ?_
    refine jw_putI (pc := 22) dX7_refuse_22 a0.1 fl_X7_46 fw_7_7 (by decide) rfl ?_
    replace h := h _ rfl
    generalize jrI M3 p (upd (M3.1 p) 7 (M3.1 p 12)) = M4 at h ⊢
    refine jw_iconst (pc := 25) (v := 0) dX7_refuse_25 rfl ?_
    exact jw_zret (pc := 26) dX7_refuse_26 rfl (Or.inl rfl) ⟨false, rfl, h⟩
set_option maxRecDepth 20000 in
theorem b_X7_takeWord {x : jX} {tb : jT} {d : Nat} {M : jM} {P : jM → Bool → Prop} {p : Nat} {a1 : Int32} (a0 : aX7 tb p)
    (h : ((M.1 p 3) = a1 → JC x tb mX7_step d [.ref (x.2.2.2 p)] M (jV fun M1 => P M1 true)) ∧ (¬ (M.1 p 3) = a1 → JC x tb mX7_refuse d [.ref (x.2.2.2 p), .int (2 : Int32)] M (jZ fun M2 b1 => P M2 b1))) :
    JC x tb mX7_takeWord (d + 1) [.ref (x.2.2.2 p), .int a1] M (jZ P) := by
  refine JC.of rfl (Nat.le_of_ble_eq_true rfl) ?_
  refine jw_ls (ls' := [(0, .ref (x.2.2.2 p)), (1, .int a1)]) rfl ?_
  refine jw_aload_n (pc := 0) (j := 0) dX7_takeWord_0 rfl rfl ?_
  refine jw_getI (pc := 1) dX7_takeWord_1 a0.1 fl_X7_55 (by decide) rfl ?_
  refine jw_iload_n (pc := 4) (j := 1) dX7_takeWord_4 rfl rfl ?_
  refine jw_icmp_eq (pc := 5) (tgt := 14) dX7_takeWord_5 (by decide) (fun c => ?_) (fun c => ?_)
  · replace h := h.1 c
    refine jw_aload_n (pc := 14) (j := 0) dX7_takeWord_14 rfl rfl ?_
    refine jw_callV (pc := 15) (m2 := mX7_step) (As := []) (st := []) dX7_takeWord_15 a0.1 (by decide) rfl rfl gm_X7_step ml_X7_49 rfl (Nat.le_of_ble_eq_true rfl) (JC.mono h ?_)
    clear h
    rintro M1 _ ⟨rfl, h⟩
    refine jw_st (st' := []) rfl ?_
    refine jw_iconst (pc := 18) (v := 1) dX7_takeWord_18 rfl ?_
    exact jw_zret (pc := 19) dX7_takeWord_19 rfl (Or.inr rfl) ⟨true, rfl, h⟩
  · replace h := h.2 c
    refine jw_aload_n (pc := 8) (j := 0) dX7_takeWord_8 rfl rfl ?_
    refine jw_iconst (pc := 9) (v := 2) dX7_takeWord_9 rfl ?_
    refine jw_callV (pc := 10) (m2 := mX7_refuse) (As := [.int (2 : Int32)]) (st := []) dX7_takeWord_10 a0.1 (by decide) rfl rfl gm_X7_refuse ml_X7_83 rfl (Nat.le_of_ble_eq_true rfl) (JC.mono h ?_)
    clear h
    rintro M2 _ ⟨b1, rfl, h⟩
    refine jw_st (st' := [.int (jb b1)]) rfl ?_
    exact jw_zret (pc := 13) dX7_takeWord_13 rfl (jb_01 _) ⟨_, rfl, h⟩
set_option maxRecDepth 20000 in
theorem b_X7_takeSemicolon {x : jX} {tb : jT} {d : Nat} {M : jM} {P : jM → Bool → Prop} {p : Nat} (a0 : aX7 tb p)
    (h : (¬ (M.1 p 0) = (4 : Int32) → JC x tb mX7_refuse d [.ref (x.2.2.2 p), .int (2 : Int32)] M (jZ fun M1 b1 => P M1 b1)) ∧ ((M.1 p 0) = (4 : Int32) → ((M.1 p 2) = (59 : Int32) → JC x tb mX7_step d [.ref (x.2.2.2 p)] M (jV fun M2 => P M2 true)) ∧ (¬ (M.1 p 2) = (59 : Int32) → JC x tb mX7_refuse d [.ref (x.2.2.2 p), .int (2 : Int32)] M (jZ fun M3 b2 => P M3 b2)))) :
    JC x tb mX7_takeSemicolon (d + 1) [.ref (x.2.2.2 p)] M (jZ P) := by
  refine JC.of rfl (Nat.le_of_ble_eq_true rfl) ?_
  refine jw_ls (ls' := [(0, .ref (x.2.2.2 p))]) rfl ?_
  refine jw_aload_n (pc := 0) (j := 0) dX7_takeSemicolon_0 rfl rfl ?_
  refine jw_getI (pc := 1) dX7_takeSemicolon_1 a0.1 fl_X7_58 (by decide) rfl ?_
  refine jw_iconst (pc := 4) (v := 4) dX7_takeSemicolon_4 rfl ?_
  refine jw_icmp_ne (pc := 5) (tgt := 17) dX7_takeSemicolon_5 (by decide) (fun c => ?_) (fun c => ?_)
  · replace h := h.1 c
    refine jw_aload_n (pc := 17) (j := 0) dX7_takeSemicolon_17 rfl rfl ?_
    refine jw_iconst (pc := 18) (v := 2) dX7_takeSemicolon_18 rfl ?_
    refine jw_callV (pc := 19) (m2 := mX7_refuse) (As := [.int (2 : Int32)]) (st := []) dX7_takeSemicolon_19 a0.1 (by decide) rfl rfl gm_X7_refuse ml_X7_83 rfl (Nat.le_of_ble_eq_true rfl) (JC.mono h ?_)
    clear h
    rintro M1 _ ⟨b1, rfl, h⟩
    refine jw_st (st' := [.int (jb b1)]) rfl ?_
    exact jw_zret (pc := 22) dX7_takeSemicolon_22 rfl (jb_01 _) ⟨_, rfl, h⟩
  · replace h := h.2 c
    refine jw_aload_n (pc := 8) (j := 0) dX7_takeSemicolon_8 rfl rfl ?_
    refine jw_getI (pc := 9) dX7_takeSemicolon_9 a0.1 fl_X7_80 (by decide) rfl ?_
    refine jw_bipush (pc := 12) (v := 59) dX7_takeSemicolon_12 rfl ?_
    refine jw_icmp_eq (pc := 14) (tgt := 23) dX7_takeSemicolon_14 (by decide) (fun c => ?_) (fun c => ?_)
    · replace h := h.1 c
      refine jw_aload_n (pc := 23) (j := 0) dX7_takeSemicolon_23 rfl rfl ?_
      refine jw_callV (pc := 24) (m2 := mX7_step) (As := []) (st := []) dX7_takeSemicolon_24 a0.1 (by decide) rfl rfl gm_X7_step ml_X7_49 rfl (Nat.le_of_ble_eq_true rfl) (JC.mono h ?_)
      clear h
      rintro M2 _ ⟨rfl, h⟩
      refine jw_st (st' := []) rfl ?_
      refine jw_iconst (pc := 27) (v := 1) dX7_takeSemicolon_27 rfl ?_
      exact jw_zret (pc := 28) dX7_takeSemicolon_28 rfl (Or.inr rfl) ⟨true, rfl, h⟩
    · replace h := h.2 c
      refine jw_aload_n (pc := 17) (j := 0) dX7_takeSemicolon_17 rfl rfl ?_
      refine jw_iconst (pc := 18) (v := 2) dX7_takeSemicolon_18 rfl ?_
      refine jw_callV (pc := 19) (m2 := mX7_refuse) (As := [.int (2 : Int32)]) (st := []) dX7_takeSemicolon_19 a0.1 (by decide) rfl rfl gm_X7_refuse ml_X7_83 rfl (Nat.le_of_ble_eq_true rfl) (JC.mono h ?_)
      clear h
      rintro M3 _ ⟨b2, rfl, h⟩
      refine jw_st (st' := [.int (jb b2)]) rfl ?_
      exact jw_zret (pc := 22) dX7_takeSemicolon_22 rfl (jb_01 _) ⟨_, rfl, h⟩
set_option maxRecDepth 20000 in
theorem b_X7_takeCompares {x : jX} {tb : jT} {d : Nat} {M : jM} {P : jM → Bool → Prop} {p : Nat} (a0 : aX7 tb p)
    (h : (¬ (M.1 p 0) = (4 : Int32) → JC x tb mX7_refuse d [.ref (x.2.2.2 p), .int (2 : Int32)] M (jZ fun M1 b1 => P M1 b1)) ∧ ((M.1 p 0) = (4 : Int32) → (¬ (M.1 p 2) = (59 : Int32) → ∀ M2, M2 = jrI M p (upd (M.1 p) 5 (M.1 p 2)) → JC x tb mX7_step d [.ref (x.2.2.2 p)] M2 (jV fun M3 => P M3 true)) ∧ ((M.1 p 2) = (59 : Int32) → JC x tb mX7_refuse d [.ref (x.2.2.2 p), .int (2 : Int32)] M (jZ fun M4 b2 => P M4 b2)))) :
    JC x tb mX7_takeCompares (d + 1) [.ref (x.2.2.2 p)] M (jZ P) := by
  refine JC.of rfl (Nat.le_of_ble_eq_true rfl) ?_
  refine jw_ls (ls' := [(0, .ref (x.2.2.2 p))]) rfl ?_
  refine jw_aload_n (pc := 0) (j := 0) dX7_takeCompares_0 rfl rfl ?_
  refine jw_getI (pc := 1) dX7_takeCompares_1 a0.1 fl_X7_58 (by decide) rfl ?_
  refine jw_iconst (pc := 4) (v := 4) dX7_takeCompares_4 rfl ?_
  refine jw_icmp_ne (pc := 5) (tgt := 17) dX7_takeCompares_5 (by decide) (fun c => ?_) (fun c => ?_)
  · replace h := h.1 c
    refine jw_aload_n (pc := 17) (j := 0) dX7_takeCompares_17 rfl rfl ?_
    refine jw_iconst (pc := 18) (v := 2) dX7_takeCompares_18 rfl ?_
    refine jw_callV (pc := 19) (m2 := mX7_refuse) (As := [.int (2 : Int32)]) (st := []) dX7_takeCompares_19 a0.1 (by decide) rfl rfl gm_X7_refuse ml_X7_83 rfl (Nat.le_of_ble_eq_true rfl) (JC.mono h ?_)
    clear h
    rintro M1 _ ⟨b1, rfl, h⟩
    refine jw_st (st' := [.int (jb b1)]) rfl ?_
    exact jw_zret (pc := 22) dX7_takeCompares_22 rfl (jb_01 _) ⟨_, rfl, h⟩
  · replace h := h.2 c
    refine jw_aload_n (pc := 8) (j := 0) dX7_takeCompares_8 rfl rfl ?_
    refine jw_getI (pc := 9) dX7_takeCompares_9 a0.1 fl_X7_80 (by decide) rfl ?_
    refine jw_bipush (pc := 12) (v := 59) dX7_takeCompares_12 rfl ?_
    refine jw_icmp_ne (pc := 14) (tgt := 23) dX7_takeCompares_14 (by decide) (fun c => ?_) (fun c => ?_)
    · replace h := h.1 c
      refine jw_aload_n (pc := 23) (j := 0) dX7_takeCompares_23 rfl rfl ?_
      refine jw_aload_n (pc := 24) (j := 0) dX7_takeCompares_24 rfl rfl ?_
      refine jw_getI (pc := 25) dX7_takeCompares_25 a0.1 fl_X7_80 (by decide) rfl ?_
      refine jw_putI (pc := 28) dX7_takeCompares_28 a0.1 fl_X7_87 fw_7_5 (by decide) rfl ?_
      replace h := h _ rfl
      generalize jrI M p (upd (M.1 p) 5 (M.1 p 2)) = M2 at h ⊢
      refine jw_aload_n (pc := 31) (j := 0) dX7_takeCompares_31 rfl rfl ?_
      refine jw_callV (pc := 32) (m2 := mX7_step) (As := []) (st := []) dX7_takeCompares_32 a0.1 (by decide) rfl rfl gm_X7_step ml_X7_49 rfl (Nat.le_of_ble_eq_true rfl) (JC.mono h ?_)
      clear h
      rintro M3 _ ⟨rfl, h⟩
      refine jw_st (st' := []) rfl ?_
      refine jw_iconst (pc := 35) (v := 1) dX7_takeCompares_35 rfl ?_
      exact jw_zret (pc := 36) dX7_takeCompares_36 rfl (Or.inr rfl) ⟨true, rfl, h⟩
    · replace h := h.2 c
      refine jw_aload_n (pc := 17) (j := 0) dX7_takeCompares_17 rfl rfl ?_
      refine jw_iconst (pc := 18) (v := 2) dX7_takeCompares_18 rfl ?_
      refine jw_callV (pc := 19) (m2 := mX7_refuse) (As := [.int (2 : Int32)]) (st := []) dX7_takeCompares_19 a0.1 (by decide) rfl rfl gm_X7_refuse ml_X7_83 rfl (Nat.le_of_ble_eq_true rfl) (JC.mono h ?_)
      clear h
      rintro M4 _ ⟨b2, rfl, h⟩
      refine jw_st (st' := [.int (jb b2)]) rfl ?_
      exact jw_zret (pc := 22) dX7_takeCompares_22 rfl (jb_01 _) ⟨_, rfl, h⟩
set_option maxRecDepth 20000 in
theorem b_X7_takeNumber {x : jX} {tb : jT} {d : Nat} {M : jM} {P : jM → Bool → Prop} {p : Nat} {a1 : Int32} {a2 : Int32} (a0 : aX7 tb p)
    (h : ((M.1 p 0) = (3 : Int32) → ((M.1 p 1) < a1 → JC x tb mX7_refuse d [.ref (x.2.2.2 p), .int (4 : Int32)] M (jZ fun M1 b1 => P M1 b1)) ∧ (¬ (M.1 p 1) < a1 → ((M.1 p 1) ≤ a2 → ∀ M2, M2 = jrI M p (upd (M.1 p) 5 (M.1 p 1)) → JC x tb mX7_step d [.ref (x.2.2.2 p)] M2 (jV fun M3 => P M3 true)) ∧ (¬ (M.1 p 1) ≤ a2 → JC x tb mX7_refuse d [.ref (x.2.2.2 p), .int (4 : Int32)] M (jZ fun M4 b2 => P M4 b2)))) ∧ (¬ (M.1 p 0) = (3 : Int32) → JC x tb mX7_refuse d [.ref (x.2.2.2 p), .int (2 : Int32)] M (jZ fun M5 b3 => P M5 b3))) :
    JC x tb mX7_takeNumber (d + 1) [.ref (x.2.2.2 p), .int a1, .int a2] M (jZ P) := by
  refine JC.of rfl (Nat.le_of_ble_eq_true rfl) ?_
  refine jw_ls (ls' := [(0, .ref (x.2.2.2 p)), (1, .int a1), (2, .int a2)]) rfl ?_
  refine jw_aload_n (pc := 0) (j := 0) dX7_takeNumber_0 rfl rfl ?_
  refine jw_getI (pc := 1) dX7_takeNumber_1 a0.1 fl_X7_58 (by decide) rfl ?_
  refine jw_iconst (pc := 4) (v := 3) dX7_takeNumber_4 rfl ?_
  refine jw_icmp_eq (pc := 5) (tgt := 14) dX7_takeNumber_5 (by decide) (fun c => ?_) (fun c => ?_)
  · replace h := h.1 c
    refine jw_aload_n (pc := 14) (j := 0) dX7_takeNumber_14 rfl rfl ?_
    refine jw_getI (pc := 15) dX7_takeNumber_15 a0.1 fl_X7_77 (by decide) rfl ?_
    refine jw_iload_n (pc := 18) (j := 1) dX7_takeNumber_18 rfl rfl ?_
    refine jw_icmp_lt (pc := 19) (tgt := 30) dX7_takeNumber_19 (by decide) (fun c => ?_) (fun c => ?_)
    · replace h := h.1 c
      refine jw_aload_n (pc := 30) (j := 0) dX7_takeNumber_30 rfl rfl ?_
      refine jw_iconst (pc := 31) (v := 4) dX7_takeNumber_31 rfl ?_
      refine jw_callV (pc := 32) (m2 := mX7_refuse) (As := [.int (4 : Int32)]) (st := []) dX7_takeNumber_32 a0.1 (by decide) rfl rfl gm_X7_refuse ml_X7_83 rfl (Nat.le_of_ble_eq_true rfl) (JC.mono h ?_)
      clear h
      rintro M1 _ ⟨b1, rfl, h⟩
      refine jw_st (st' := [.int (jb b1)]) rfl ?_
      exact jw_zret (pc := 35) dX7_takeNumber_35 rfl (jb_01 _) ⟨_, rfl, h⟩
    · replace h := h.2 c
      refine jw_aload_n (pc := 22) (j := 0) dX7_takeNumber_22 rfl rfl ?_
      refine jw_getI (pc := 23) dX7_takeNumber_23 a0.1 fl_X7_77 (by decide) rfl ?_
      refine jw_iload_n (pc := 26) (j := 2) dX7_takeNumber_26 rfl rfl ?_
      refine jw_icmp_le (pc := 27) (tgt := 36) dX7_takeNumber_27 (by decide) (fun c => ?_) (fun c => ?_)
      · replace h := h.1 c
        refine jw_aload_n (pc := 36) (j := 0) dX7_takeNumber_36 rfl rfl ?_
        refine jw_aload_n (pc := 37) (j := 0) dX7_takeNumber_37 rfl rfl ?_
        refine jw_getI (pc := 38) dX7_takeNumber_38 a0.1 fl_X7_77 (by decide) rfl ?_
        refine jw_putI (pc := 41) dX7_takeNumber_41 a0.1 fl_X7_87 fw_7_5 (by decide) rfl ?_
        replace h := h _ rfl
        generalize jrI M p (upd (M.1 p) 5 (M.1 p 1)) = M2 at h ⊢
        refine jw_aload_n (pc := 44) (j := 0) dX7_takeNumber_44 rfl rfl ?_
        refine jw_callV (pc := 45) (m2 := mX7_step) (As := []) (st := []) dX7_takeNumber_45 a0.1 (by decide) rfl rfl gm_X7_step ml_X7_49 rfl (Nat.le_of_ble_eq_true rfl) (JC.mono h ?_)
        clear h
        rintro M3 _ ⟨rfl, h⟩
        refine jw_st (st' := []) rfl ?_
        refine jw_iconst (pc := 48) (v := 1) dX7_takeNumber_48 rfl ?_
        exact jw_zret (pc := 49) dX7_takeNumber_49 rfl (Or.inr rfl) ⟨true, rfl, h⟩
      · replace h := h.2 c
        refine jw_aload_n (pc := 30) (j := 0) dX7_takeNumber_30 rfl rfl ?_
        refine jw_iconst (pc := 31) (v := 4) dX7_takeNumber_31 rfl ?_
        refine jw_callV (pc := 32) (m2 := mX7_refuse) (As := [.int (4 : Int32)]) (st := []) dX7_takeNumber_32 a0.1 (by decide) rfl rfl gm_X7_refuse ml_X7_83 rfl (Nat.le_of_ble_eq_true rfl) (JC.mono h ?_)
        clear h
        rintro M4 _ ⟨b2, rfl, h⟩
        refine jw_st (st' := [.int (jb b2)]) rfl ?_
        exact jw_zret (pc := 35) dX7_takeNumber_35 rfl (jb_01 _) ⟨_, rfl, h⟩
  · replace h := h.2 c
    refine jw_aload_n (pc := 8) (j := 0) dX7_takeNumber_8 rfl rfl ?_
    refine jw_iconst (pc := 9) (v := 2) dX7_takeNumber_9 rfl ?_
    refine jw_callV (pc := 10) (m2 := mX7_refuse) (As := [.int (2 : Int32)]) (st := []) dX7_takeNumber_10 a0.1 (by decide) rfl rfl gm_X7_refuse ml_X7_83 rfl (Nat.le_of_ble_eq_true rfl) (JC.mono h ?_)
    clear h
    rintro M5 _ ⟨b3, rfl, h⟩
    refine jw_st (st' := [.int (jb b3)]) rfl ?_
    exact jw_zret (pc := 13) dX7_takeNumber_13 rfl (jb_01 _) ⟨_, rfl, h⟩
set_option maxRecDepth 20000 in
theorem b_X7_isName {x : jX} {tb : jT} {d : Nat} {M : jM} {P : jM → Bool → Prop} {p : Nat} (a0 : aX7 tb p)
    (h : (¬ (M.1 p 0) = (2 : Int32) → P M false) ∧ ((M.1 p 0) = (2 : Int32) → ((8 : Int32) < (M.1 p 13) → P M false) ∧ (¬ (8 : Int32) < (M.1 p 13) → (¬ (M.1 p 3) = (-1 : Int32) → P M false) ∧ ((M.1 p 3) = (-1 : Int32) → P M true)))) :
    JC x tb mX7_isName d [.ref (x.2.2.2 p)] M (jZ P) := by
  refine JC.of rfl (Nat.le_of_ble_eq_true rfl) ?_
  refine jw_ls (ls' := [(0, .ref (x.2.2.2 p))]) rfl ?_
  refine jw_aload_n (pc := 0) (j := 0) dX7_isName_0 rfl rfl ?_
  refine jw_getI (pc := 1) dX7_isName_1 a0.1 fl_X7_58 (by decide) rfl ?_
  refine jw_iconst (pc := 4) (v := 2) dX7_isName_4 rfl ?_
  refine jw_icmp_ne (pc := 5) (tgt := 29) dX7_isName_5 (by decide) (fun c => ?_) (fun c => ?_)
  · replace h := h.1 c
    refine jw_iconst (pc := 29) (v := 0) dX7_isName_29 rfl ?_
    exact jw_zret (pc := 30) dX7_isName_30 rfl (Or.inl rfl) ⟨false, rfl, h⟩
  · replace h := h.2 c
    refine jw_aload_n (pc := 8) (j := 0) dX7_isName_8 rfl rfl ?_
    refine jw_getI (pc := 9) dX7_isName_9 a0.1 fl_X7_70 (by decide) rfl ?_
    refine jw_bipush (pc := 12) (v := 8) dX7_isName_12 rfl ?_
    refine jw_icmp_gt (pc := 14) (tgt := 29) dX7_isName_14 (by decide) (fun c => ?_) (fun c => ?_)
    · replace h := h.1 c
      refine jw_iconst (pc := 29) (v := 0) dX7_isName_29 rfl ?_
      exact jw_zret (pc := 30) dX7_isName_30 rfl (Or.inl rfl) ⟨false, rfl, h⟩
    · replace h := h.2 c
      refine jw_aload_n (pc := 17) (j := 0) dX7_isName_17 rfl rfl ?_
      refine jw_getI (pc := 18) dX7_isName_18 a0.1 fl_X7_55 (by decide) rfl ?_
      refine jw_iconst (pc := 21) (v := (-1)) dX7_isName_21 rfl ?_
      refine jw_icmp_ne (pc := 22) (tgt := 29) dX7_isName_22 (by decide) (fun c => ?_) (fun c => ?_)
      · replace h := h.1 c
        refine jw_iconst (pc := 29) (v := 0) dX7_isName_29 rfl ?_
        exact jw_zret (pc := 30) dX7_isName_30 rfl (Or.inl rfl) ⟨false, rfl, h⟩
      · replace h := h.2 c
        refine jw_iconst (pc := 25) (v := 1) dX7_isName_25 rfl ?_
        refine jw_goto (pc := 26) (tgt := 30) dX7_isName_26 (by decide) ?_
        exact jw_zret (pc := 30) dX7_isName_30 rfl (Or.inr rfl) ⟨true, rfl, h⟩
set_option maxRecDepth 20000 in
theorem b_X7_isSide {x : jX} {tb : jT} {d : Nat} {M : jM} {P : jM → Bool → Prop} {p : Nat} (a0 : aX7 tb p)
    (h : ((M.1 p 3) < (18 : Int32) → P M false) ∧ (¬ (M.1 p 3) < (18 : Int32) → P M true)) :
    JC x tb mX7_isSide d [.ref (x.2.2.2 p)] M (jZ P) := by
  refine JC.of rfl (Nat.le_of_ble_eq_true rfl) ?_
  refine jw_ls (ls' := [(0, .ref (x.2.2.2 p))]) rfl ?_
  refine jw_aload_n (pc := 0) (j := 0) dX7_isSide_0 rfl rfl ?_
  refine jw_getI (pc := 1) dX7_isSide_1 a0.1 fl_X7_55 (by decide) rfl ?_
  refine jw_bipush (pc := 4) (v := 18) dX7_isSide_4 rfl ?_
  refine jw_icmp_lt (pc := 6) (tgt := 13) dX7_isSide_6 (by decide) (fun c => ?_) (fun c => ?_)
  · replace h := h.1 c
    refine jw_iconst (pc := 13) (v := 0) dX7_isSide_13 rfl ?_
    exact jw_zret (pc := 14) dX7_isSide_14 rfl (Or.inl rfl) ⟨false, rfl, h⟩
  · replace h := h.2 c
    refine jw_iconst (pc := 9) (v := 1) dX7_isSide_9 rfl ?_
    refine jw_goto (pc := 10) (tgt := 14) dX7_isSide_10 (by decide) ?_
    exact jw_zret (pc := 14) dX7_isSide_14 rfl (Or.inr rfl) ⟨true, rfl, h⟩
