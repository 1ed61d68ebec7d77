set_option maxRecDepth 20000 in
theorem b_X9_lay {x : jX} {tb : jT} {d : Nat} {M : jM} {P : jM → Prop} {p : Nat} {a1 : Int32} {a2 : Int32} (a0 : aX9 tb p)
    (h : ∀ M1, M1 = jrI M p (upd (M.1 p) 0 (1 : Int32)) → ∀ M2, M2 = jrI M1 p (upd (M1.1 p) 1 a1) → ∀ M3, M3 = jrI M2 p (upd (M2.1 p) 2 a2) → JC x tb mJ7_fill_d0a16 d [.ref (x.2.2.2 (p + 1)), .long (0 : Int64)] M3 (jV fun M4 => P M4)) :
    JC x tb mX9_lay (d + 1) [.ref (x.2.2.2 p), .int a1, .int a2] M (jV P) := by
  refine JC.of rfl (Nat.le_of_ble_eq_true rfl) ?_
  refine jw_ls (ls' := [(0, .ref (x.2.2.2 p)), (1, .int a1), (2, .int a2)]) rfl ?_
  refine jw_aload_n (pc := 0) (j := 0) dX9_lay_0 rfl rfl ?_
  refine jw_iconst (pc := 1) (v := 1) dX9_lay_1 rfl ?_
  refine jw_putZ (pc := 2) dX9_lay_2 a0.1 fl_X9_15 fw_9_0 (by decide) rfl (Or.inr rfl) ?_
  replace h := h _ rfl
  generalize jrI M p (upd (M.1 p) 0 (1 : Int32)) = M1 at h ⊢
  refine jw_aload_n (pc := 5) (j := 0) dX9_lay_5 rfl rfl ?_
  refine jw_iload_n (pc := 6) (j := 1) dX9_lay_6 rfl rfl ?_
  refine jw_putI (pc := 7) dX9_lay_7 a0.1 fl_X9_19 fw_9_1 (by decide) rfl ?_
  replace h := h _ rfl
  generalize jrI M1 p (upd (M1.1 p) 1 a1) = M2 at h ⊢
  refine jw_aload_n (pc := 10) (j := 0) dX9_lay_10 rfl rfl ?_
  refine jw_iload_n (pc := 11) (j := 2) dX9_lay_11 rfl rfl ?_
  refine jw_putI (pc := 12) dX9_lay_12 a0.1 fl_X9_23 fw_9_2 (by decide) rfl ?_
  replace h := h _ rfl
  generalize jrI M2 p (upd (M2.1 p) 2 a2) = M3 at h ⊢
  refine jw_aload_n (pc := 15) (j := 0) dX9_lay_15 rfl rfl ?_
  refine jw_getR (pc := 16) (r := p + 1) dX9_lay_16 a0.1 fl_X9_9 (by decide) rfl rfl ?_
  refine jw_lconst (pc := 19) (v := 0) dX9_lay_19 rfl ?_
  refine jw_callS (pc := 20) (m2 := mJ7_fill_d0a16) (As := [.ref (x.2.2.2 (p + 1)), .long (0 : Int64)]) (st := []) dX9_lay_20 gm_J7_fill_d0a16 ml_X9_26 rfl (Nat.le_of_ble_eq_true rfl) (JC.mono h ?_)
  clear h
  rintro M4 _ ⟨rfl, h⟩
  refine jw_st (st' := []) rfl ?_
  exact jw_vret (pc := 23) dX9_lay_23 rfl ⟨rfl, h⟩
set_option maxRecDepth 20000 in
theorem b_X9_hasPlaces {x : jX} {tb : jT} {d : Nat} {M : jM} {P : jM → Bool → Prop} {p : Nat} {a1 : Int32} {a2 : Int32} (a0 : aX9 tb p)
    (h : (a1 < 0 → P M false) ∧ (¬ a1 < 0 → (a2 < 0 → P M false) ∧ (¬ a2 < 0 → (((M.1 p 2).toInt64) < (a1.toInt64 + a2.toInt64) → P M false) ∧ (¬ ((M.1 p 2).toInt64) < (a1.toInt64 + a2.toInt64) → P M true)))) :
    JC x tb mX9_hasPlaces d [.ref (x.2.2.2 p), .int a1, .int a2] M (jZ P) := by
  refine JC.of rfl (Nat.le_of_ble_eq_true rfl) ?_
  refine jw_ls (ls' := [(0, .ref (x.2.2.2 p)), (1, .int a1), (2, .int a2)]) rfl ?_
  refine jw_iload_n (pc := 0) (j := 1) dX9_hasPlaces_0 rfl rfl ?_
  refine jw_if_lt (pc := 1) (tgt := 26) dX9_hasPlaces_1 (by decide) (fun c => ?_) (fun c => ?_)
  · replace h := h.1 c
    refine jw_iconst (pc := 26) (v := 0) dX9_hasPlaces_26 rfl ?_
    exact jw_zret (pc := 27) dX9_hasPlaces_27 rfl (Or.inl rfl) ⟨false, rfl, h⟩
  · replace h := h.2 c
    refine jw_iload_n (pc := 4) (j := 2) dX9_hasPlaces_4 rfl rfl ?_
    refine jw_if_lt (pc := 5) (tgt := 26) dX9_hasPlaces_5 (by decide) (fun c => ?_) (fun c => ?_)
    · replace h := h.1 c
      refine jw_iconst (pc := 26) (v := 0) dX9_hasPlaces_26 rfl ?_
      exact jw_zret (pc := 27) dX9_hasPlaces_27 rfl (Or.inl rfl) ⟨false, rfl, h⟩
    · replace h := h.2 c
      refine jw_iload_n (pc := 8) (j := 1) dX9_hasPlaces_8 rfl rfl ?_
      refine jw_i2l (pc := 9) dX9_hasPlaces_9 ?_
      refine jw_iload_n (pc := 10) (j := 2) dX9_hasPlaces_10 rfl rfl ?_
      refine jw_i2l (pc := 11) dX9_hasPlaces_11 ?_
      refine jw_ladd (pc := 12) dX9_hasPlaces_12 ?_
      refine jw_aload_n (pc := 13) (j := 0) dX9_hasPlaces_13 rfl rfl ?_
      refine jw_getI (pc := 14) dX9_hasPlaces_14 a0.1 fl_X9_23 (by decide) rfl ?_
      refine jw_i2l (pc := 17) dX9_hasPlaces_17 ?_
      refine jw_lcmp (pc := 18) dX9_hasPlaces_18 ?_
      refine jw_if_gt (pc := 19) (tgt := 26) dX9_hasPlaces_19 (by decide) (fun c => ?_) (fun c => ?_)
      · replace h := h.1 ((jcmp_gt _ _).mp c)
        refine jw_iconst (pc := 26) (v := 0) dX9_hasPlaces_26 rfl ?_
        exact jw_zret (pc := 27) dX9_hasPlaces_27 rfl (Or.inl rfl) ⟨false, rfl, h⟩
      · replace h := h.2 (fun z => c ((jcmp_gt _ _).mpr z))
        refine jw_iconst (pc := 22) (v := 1) dX9_hasPlaces_22 rfl ?_
        refine jw_goto (pc := 23) (tgt := 27) dX9_hasPlaces_23 (by decide) ?_
        exact jw_zret (pc := 27) dX9_hasPlaces_27 rfl (Or.inr rfl) ⟨true, rfl, h⟩
set_option maxRecDepth 20000 in
theorem b_X9_put {x : jX} {tb : jT} {d : Nat} {M : jM} {P : jM → Prop} {p : Nat} {a1 : Int32} {a2 : Int64} (a0 : aX9 tb p)
    (h : ((M.1 p 1) = 0 → ∃ j1, j1 < 60 ∧ a1 = nI j1 ∧ (∀ M1, M1 = jrL M (p + 1) (vp_updL (M.2 (p + 1)) j1 a2.toInt32.toInt8.toInt32.toInt64) → P M1)) ∧ (¬ (M.1 p 1) = 0 → ((M.1 p 1) = 1 → ∃ j2, j2 < 60 ∧ a1 = nI j2 ∧ (∀ M2, M2 = jrL M (p + 1) (vp_updL (M.2 (p + 1)) j2 a2.toInt32.toInt16.toInt32.toInt64) → P M2)) ∧ (¬ (M.1 p 1) = 1 → ((M.1 p 1) = 2 → ∃ j3, j3 < 60 ∧ a1 = nI j3 ∧ (∀ M3, M3 = jrL M (p + 1) (vp_updL (M.2 (p + 1)) j3 a2.toInt32.toInt64) → P M3)) ∧ (¬ (M.1 p 1) = 2 → ∃ j4, j4 < 60 ∧ a1 = nI j4 ∧ (∀ M4, M4 = jrL M (p + 1) (vp_updL (M.2 (p + 1)) j4 a2) → P M4))))) :
    JC x tb mX9_put d [.ref (x.2.2.2 p), .int a1, .long a2] M (jV P) := by
  refine JC.of rfl (Nat.le_of_ble_eq_true rfl) ?_
  refine jw_ls (ls' := [(0, .ref (x.2.2.2 p)), (1, .int a1), (2, .long a2)]) rfl ?_
  refine jw_aload_n (pc := 0) (j := 0) dX9_put_0 rfl rfl ?_
  refine jw_getI (pc := 1) dX9_put_1 a0.1 fl_X9_19 (by decide) rfl ?_
  refine (Decidable.em ((M.1 p 1) = 0)).elim (fun c0 => ?_) (fun c0 => ?_)
  · replace h := h.1 c0
    refine jw_tableIn (pc := 4) (tgt := 32) dX9_put_4 (by rw [c0]; decide) (by rw [c0]; decide) (by rw [c0]; rfl) (by decide) ?_
    refine jw_aload_n (pc := 32) (j := 0) dX9_put_32 rfl rfl ?_
    refine jw_getR (pc := 33) (r := p + 1) dX9_put_33 a0.1 fl_X9_9 (by decide) rfl rfl ?_
    refine jw_iload_n (pc := 36) (j := 1) dX9_put_36 rfl rfl ?_
    refine jw_lload_n (pc := 37) (j := 2) dX9_put_37 rfl rfl ?_
    refine jw_l2i (pc := 38) dX9_put_38 ?_
    refine jw_i2b (pc := 39) dX9_put_39 ?_
    refine jw_i2l (pc := 40) dX9_put_40 ?_
    obtain ⟨j1, hj1, ej1, h⟩ := h
    refine jw_last (pc := 41) (j := j1) dX9_put_41 a0.2 hj1 ej1 (by decide) ?_
    replace h := h _ rfl
    generalize jrL M (p + 1) (vp_updL (M.2 (p + 1)) j1 a2.toInt32.toInt8.toInt32.toInt64) = M1 at h ⊢
    refine jw_goto (pc := 42) (tgt := 77) dX9_put_42 (by decide) ?_
    exact jw_vret (pc := 77) dX9_put_77 rfl ⟨rfl, h⟩
  · replace h := h.2 c0
    refine (Decidable.em ((M.1 p 1) = 1)).elim (fun c1 => ?_) (fun c1 => ?_)
    · replace h := h.1 c1
      refine jw_tableIn (pc := 4) (tgt := 45) dX9_put_4 (by rw [c1]; decide) (by rw [c1]; decide) (by rw [c1]; rfl) (by decide) ?_
      refine jw_aload_n (pc := 45) (j := 0) dX9_put_45 rfl rfl ?_
      refine jw_getR (pc := 46) (r := p + 1) dX9_put_46 a0.1 fl_X9_9 (by decide) rfl rfl ?_
      refine jw_iload_n (pc := 49) (j := 1) dX9_put_49 rfl rfl ?_
      refine jw_lload_n (pc := 50) (j := 2) dX9_put_50 rfl rfl ?_
      refine jw_l2i (pc := 51) dX9_put_51 ?_
      refine jw_i2s (pc := 52) dX9_put_52 ?_
      refine jw_i2l (pc := 53) dX9_put_53 ?_
      obtain ⟨j2, hj2, ej2, h⟩ := h
      refine jw_last (pc := 54) (j := j2) dX9_put_54 a0.2 hj2 ej2 (by decide) ?_
      replace h := h _ rfl
      generalize jrL M (p + 1) (vp_updL (M.2 (p + 1)) j2 a2.toInt32.toInt16.toInt32.toInt64) = M2 at h ⊢
      refine jw_goto (pc := 55) (tgt := 77) dX9_put_55 (by decide) ?_
      exact jw_vret (pc := 77) dX9_put_77 rfl ⟨rfl, h⟩
    · replace h := h.2 c1
      refine (Decidable.em ((M.1 p 1) = 2)).elim (fun c2 => ?_) (fun c2 => ?_)
      · replace h := h.1 c2
        refine jw_tableIn (pc := 4) (tgt := 58) dX9_put_4 (by rw [c2]; decide) (by rw [c2]; decide) (by rw [c2]; rfl) (by decide) ?_
        refine jw_aload_n (pc := 58) (j := 0) dX9_put_58 rfl rfl ?_
        refine jw_getR (pc := 59) (r := p + 1) dX9_put_59 a0.1 fl_X9_9 (by decide) rfl rfl ?_
        refine jw_iload_n (pc := 62) (j := 1) dX9_put_62 rfl rfl ?_
        refine jw_lload_n (pc := 63) (j := 2) dX9_put_63 rfl rfl ?_
        refine jw_l2i (pc := 64) dX9_put_64 ?_
        refine jw_i2l (pc := 65) dX9_put_65 ?_
        obtain ⟨j3, hj3, ej3, h⟩ := h
        refine jw_last (pc := 66) (j := j3) dX9_put_66 a0.2 hj3 ej3 (by decide) ?_
        replace h := h _ rfl
        generalize jrL M (p + 1) (vp_updL (M.2 (p + 1)) j3 a2.toInt32.toInt64) = M3 at h ⊢
        refine jw_goto (pc := 67) (tgt := 77) dX9_put_67 (by decide) ?_
        exact jw_vret (pc := 77) dX9_put_77 rfl ⟨rfl, h⟩
      · replace h := h.2 c2
        have e0 := jne_i (k := 0) (n := 0) c0 (by decide)
        have e1 := jne_i (k := 1) (n := 1) c1 (by decide)
        have e2 := jne_i (k := 2) (n := 2) c2 (by decide)
        refine jw_tableOut (pc := 4) (tgt := 70) dX9_put_4 (by omega) (by decide) ?_
        refine jw_aload_n (pc := 70) (j := 0) dX9_put_70 rfl rfl ?_
        refine jw_getR (pc := 71) (r := p + 1) dX9_put_71 a0.1 fl_X9_9 (by decide) rfl rfl ?_
        refine jw_iload_n (pc := 74) (j := 1) dX9_put_74 rfl rfl ?_
        refine jw_lload_n (pc := 75) (j := 2) dX9_put_75 rfl rfl ?_
        obtain ⟨j4, hj4, ej4, h⟩ := h
        refine jw_last (pc := 76) (j := j4) dX9_put_76 a0.2 hj4 ej4 (by decide) ?_
        replace h := h _ rfl
        generalize jrL M (p + 1) (vp_updL (M.2 (p + 1)) j4 a2) = M4 at h ⊢
        exact jw_vret (pc := 77) dX9_put_77 rfl ⟨rfl, h⟩
set_option maxRecDepth 20000 in
theorem b_X9_rowStatus {x : jX} {tb : jT} {d : Nat} {M : jM} {P : jM → Int32 → Prop} {p : Nat} {a1 : Int32} (a0 : aX9 tb p)
    (h : JC x tb mX9_hasPlaces d [.ref (x.2.2.2 p), .int (0 : Int32), .int a1] M (jZ fun M1 b1 => (b1 = true → JW x tb mX9_rowStatus (d + 1) (jI P) 13 [(0, .ref (x.2.2.2 p)), (1, .int a1), (2, .int (0 : Int32))] [] M1) ∧ (b1 = false → P M1 (4 : Int32)))) :
    JC x tb mX9_rowStatus (d + 1) [.ref (x.2.2.2 p), .int a1] M (jI P) := by
  refine JC.of rfl (Nat.le_of_ble_eq_true rfl) ?_
  refine jw_ls (ls' := [(0, .ref (x.2.2.2 p)), (1, .int a1)]) rfl ?_
  refine jw_aload_n (pc := 0) (j := 0) dX9_rowStatus_0 rfl rfl ?_
  refine jw_iconst (pc := 1) (v := 0) dX9_rowStatus_1 rfl ?_
  refine jw_iload_n (pc := 2) (j := 1) dX9_rowStatus_2 rfl rfl ?_
  refine jw_callV (pc := 3) (m2 := mX9_hasPlaces) (As := [.int (0 : Int32), .int a1]) (st := []) dX9_rowStatus_3 a0.1 (by decide) rfl rfl gm_X9_hasPlaces ml_X9_32 rfl (Nat.le_of_ble_eq_true rfl) (JC.mono h ?_)
  clear h
  rintro M1 _ ⟨b1, rfl, h⟩
  refine jw_st (st' := [.int (jb b1)]) rfl ?_
  refine jw_if_ne (pc := 6) (tgt := 11) dX9_rowStatus_6 (by decide) (fun c => ?_) (fun c => ?_)
  · replace h := h.1 (jb_ne c)
    refine jw_iconst (pc := 11) (v := 0) dX9_rowStatus_11 rfl ?_
    refine jw_istore_n (pc := 12) (ls' := [(2, .int (0 : Int32)), (0, .ref (x.2.2.2 p)), (1, .int a1)]) dX9_rowStatus_12 rfl (by decide) rfl ?_
    exact jw_sub [1, 2, 0] rfl h
  · replace h := h.2 ((jb_0 _).mp c)
    refine jw_iconst (pc := 9) (v := 4) dX9_rowStatus_9 rfl ?_
    exact jw_iret (pc := 10) dX9_rowStatus_10 rfl ⟨_, rfl, h⟩
set_option maxRecDepth 20000 in
theorem b_X9_rowStatus_13 {x : jX} {tb : jT} {d : Nat} {M : jM} {P : jM → Int32 → Prop} {p : Nat} {l1 : Int32} {l2 : Int32} (a0 : aX9 tb p)
    (h : (l1 ≤ l2 → P M (0 : Int32)) ∧ (¬ l1 ≤ l2 → ∃ j1, j1 < 60 ∧ l2 = nI j1 ∧ (JC x tb mX11_isHeight d [.long (M.2 (p + 1) j1)] M (jZ fun M1 b1 => (b1 = true → JW x tb mX9_rowStatus (d + 1) (jI P) 13 [(0, .ref (x.2.2.2 p)), (1, .int l1), (2, .int (l2 + 1))] [] M1) ∧ (b1 = false → P M1 (5 : Int32)))))) :
    JW x tb mX9_rowStatus (d + 1) (jI P) 13 [(0, .ref (x.2.2.2 p)), (1, .int l1), (2, .int l2)] [] M := by
  refine jw_iload_n (pc := 13) (j := 2) dX9_rowStatus_13 rfl rfl ?_
  refine jw_iload_n (pc := 14) (j := 1) dX9_rowStatus_14 rfl rfl ?_
  refine jw_icmp_ge (pc := 15) (tgt := 38) dX9_rowStatus_15 (by decide) (fun c => ?_) (fun c => ?_)
  · replace h := h.1 c
    refine jw_iconst (pc := 38) (v := 0) dX9_rowStatus_38 rfl ?_
    exact jw_iret (pc := 39) dX9_rowStatus_39 rfl ⟨_, rfl, h⟩
  · replace h := h.2 c
    refine jw_aload_n (pc := 18) (j := 0) dX9_rowStatus_18 rfl rfl ?_
    refine jw_getR (pc := 19) (r := p + 1) dX9_rowStatus_19 a0.1 fl_X9_9 (by decide) rfl rfl ?_
    refine jw_iload_n (pc := 22) (j := 2) dX9_rowStatus_22 rfl rfl ?_
    obtain ⟨j1, hj1, ej1, h⟩ := h
    refine jw_lald (pc := 23) (j := j1) dX9_rowStatus_23 a0.2 hj1 ej1 (by decide) ?_
    refine jw_callSN (pc := 24) (m2 := mX11_isHeight) (As := [.long (M.2 (p + 1) j1)]) (st := []) dX9_rowStatus_24 gm_X11_isHeight mn_X9_36 rfl (Nat.le_of_ble_eq_true rfl) (JC.mono h ?_)
    clear h
    rintro M1 _ ⟨b1, rfl, h⟩
    refine jw_st (st' := [.int (jb b1)]) rfl ?_
    refine jw_if_ne (pc := 27) (tgt := 32) dX9_rowStatus_27 (by decide) (fun c => ?_) (fun c => ?_)
    · replace h := h.1 (jb_ne c)
      refine jw_iinc (pc := 32) (j := 2) (u := l2 + 1) (ls' := [(2, .int (l2 + 1)), (0, .ref (x.2.2.2 p)), (1, .int l1)]) dX9_rowStatus_32 rfl rfl (by decide) rfl ?_
      refine jw_goto (pc := 35) (tgt := 13) dX9_rowStatus_35 (by decide) ?_
      exact jw_sub [1, 2, 0] rfl h
    · replace h := h.2 ((jb_0 _).mp c)
      refine jw_iconst (pc := 30) (v := 5) dX9_rowStatus_30 rfl ?_
      exact jw_iret (pc := 31) dX9_rowStatus_31 rfl ⟨_, rfl, h⟩
set_option maxRecDepth 20000 in
theorem b_X9_copyHeights {x : jX} {tb : jT} {d : Nat} {M : jM} {P : jM → Prop} {p : Nat} {a1 : Int32} {a2 : Int32} {o3 : Nat} {a4 : Int32} 
    (h : JW x tb mX9_copyHeights d (jV P) 3 [(0, .ref (x.2.2.2 p)), (1, .int a1), (2, .int a2), (3, .ref (x.2.2.2 o3)), (4, .int a4), (5, .int (0 : Int32))] [] M) :
    JC x tb mX9_copyHeights d [.ref (x.2.2.2 p), .int a1, .int a2, .ref (x.2.2.2 o3), .int a4] M (jV P) := by
  refine JC.of rfl (Nat.le_of_ble_eq_true rfl) ?_
  refine jw_ls (ls' := [(0, .ref (x.2.2.2 p)), (1, .int a1), (2, .int a2), (3, .ref (x.2.2.2 o3)), (4, .int a4)]) rfl ?_
  refine jw_iconst (pc := 0) (v := 0) dX9_copyHeights_0 rfl ?_
  refine jw_istore (pc := 1) (ls' := [(5, .int (0 : Int32)), (0, .ref (x.2.2.2 p)), (1, .int a1), (2, .int a2), (3, .ref (x.2.2.2 o3)), (4, .int a4)]) dX9_copyHeights_1 (by decide) rfl ?_
  exact jw_sub [1, 2, 3, 4, 5, 0] rfl h
set_option maxRecDepth 20000 in
theorem b_X9_copyHeights_3 {x : jX} {tb : jT} {d : Nat} {M : jM} {P : jM → Prop} {p : Nat} {o3 : Nat} {n3 : Nat} {l1 : Int32} {l2 : Int32} {l4 : Int32} {l5 : Int32} (a0 : aX9 tb p) (s3 : js tb o3 = (20, n3)) (z3 : n3 < 2 ^ 31)
    (h : (l2 ≤ l5 → P M) ∧ (¬ l2 ≤ l5 → ∃ j1, j1 < 60 ∧ l1 + l5 = nI j1 ∧ (∃ j2, j2 < n3 ∧ l4 + l5 = nI j2 ∧ (∀ M1, M1 = jrI M o3 (upd (M.1 o3) j2 ((M.2 (p + 1) j1).toInt32)) → JW x tb mX9_copyHeights d (jV P) 3 [(0, .ref (x.2.2.2 p)), (1, .int l1), (2, .int l2), (3, .ref (x.2.2.2 o3)), (4, .int l4), (5, .int (l5 + 1))] [] M1)))) :
    JW x tb mX9_copyHeights d (jV P) 3 [(0, .ref (x.2.2.2 p)), (1, .int l1), (2, .int l2), (3, .ref (x.2.2.2 o3)), (4, .int l4), (5, .int l5)] [] M := by
  refine jw_iload (pc := 3) (j := 5) dX9_copyHeights_3 rfl ?_
  refine jw_iload_n (pc := 5) (j := 2) dX9_copyHeights_5 rfl rfl ?_
  refine jw_icmp_ge (pc := 6) (tgt := 32) dX9_copyHeights_6 (by decide) (fun c => ?_) (fun c => ?_)
  · replace h := h.1 c
    exact jw_vret (pc := 32) dX9_copyHeights_32 rfl ⟨rfl, h⟩
  · replace h := h.2 c
    refine jw_aload_n (pc := 9) (j := 3) dX9_copyHeights_9 rfl rfl ?_
    refine jw_iload (pc := 10) (j := 4) dX9_copyHeights_10 rfl ?_
    refine jw_iload (pc := 12) (j := 5) dX9_copyHeights_12 rfl ?_
    refine jw_iadd (pc := 14) dX9_copyHeights_14 ?_
    refine jw_aload_n (pc := 15) (j := 0) dX9_copyHeights_15 rfl rfl ?_
    refine jw_getR (pc := 16) (r := p + 1) dX9_copyHeights_16 a0.1 fl_X9_9 (by decide) rfl rfl ?_
    refine jw_iload_n (pc := 19) (j := 1) dX9_copyHeights_19 rfl rfl ?_
    refine jw_iload (pc := 20) (j := 5) dX9_copyHeights_20 rfl ?_
    refine jw_iadd (pc := 22) dX9_copyHeights_22 ?_
    obtain ⟨j1, hj1, ej1, h⟩ := h
    refine jw_lald (pc := 23) (j := j1) dX9_copyHeights_23 a0.2 hj1 ej1 (by decide) ?_
    refine jw_l2i (pc := 24) dX9_copyHeights_24 ?_
    obtain ⟨j2, hj2, ej2, h⟩ := h
    refine jw_iast (pc := 25) (j := j2) dX9_copyHeights_25 s3 hj2 ej2 z3 ?_
    replace h := h _ rfl
    generalize jrI M o3 (upd (M.1 o3) j2 ((M.2 (p + 1) j1).toInt32)) = M1 at h ⊢
    refine jw_iinc (pc := 26) (j := 5) (u := l5 + 1) (ls' := [(5, .int (l5 + 1)), (0, .ref (x.2.2.2 p)), (1, .int l1), (2, .int l2), (3, .ref (x.2.2.2 o3)), (4, .int l4)]) dX9_copyHeights_26 rfl rfl (by decide) rfl ?_
    refine jw_goto (pc := 29) (tgt := 3) dX9_copyHeights_29 (by decide) ?_
    exact jw_sub [1, 2, 3, 4, 5, 0] rfl h
set_option maxRecDepth 20000 in
theorem b_X9_beginsLike {x : jX} {tb : jT} {d : Nat} {M : jM} {P : jM → Bool → Prop} {p : Nat} {o1 : Nat} {a2 : Int32} 
    (h : JW x tb mX9_beginsLike d (jZ P) 2 [(0, .ref (x.2.2.2 p)), (1, .ref (x.2.2.2 o1)), (2, .int a2), (3, .int (0 : Int32))] [] M) :
    JC x tb mX9_beginsLike d [.ref (x.2.2.2 p), .ref (x.2.2.2 o1), .int a2] M (jZ P) := by
  refine JC.of rfl (Nat.le_of_ble_eq_true rfl) ?_
  refine jw_ls (ls' := [(0, .ref (x.2.2.2 p)), (1, .ref (x.2.2.2 o1)), (2, .int a2)]) rfl ?_
  refine jw_iconst (pc := 0) (v := 0) dX9_beginsLike_0 rfl ?_
  refine jw_istore_n (pc := 1) (ls' := [(3, .int (0 : Int32)), (0, .ref (x.2.2.2 p)), (1, .ref (x.2.2.2 o1)), (2, .int a2)]) dX9_beginsLike_1 rfl (by decide) rfl ?_
  exact jw_sub [1, 2, 3, 0] rfl h
set_option maxRecDepth 20000 in
theorem b_X9_beginsLike_2 {x : jX} {tb : jT} {d : Nat} {M : jM} {P : jM → Bool → Prop} {p : Nat} {o1 : Nat} {n1 : Nat} {l2 : Int32} {l3 : Int32} (a0 : aX9 tb p) (s1 : js tb o1 = (20, n1)) (z1 : n1 < 2 ^ 31)
    (h : (l2 ≤ l3 → P M true) ∧ (¬ l2 ≤ l3 → ∃ j1, j1 < 60 ∧ l3 = nI j1 ∧ (j1 < n1 ∧ (((M.2 (p + 1) j1) = ((M.1 o1 j1).toInt64) → JW x tb mX9_beginsLike d (jZ P) 2 [(0, .ref (x.2.2.2 p)), (1, .ref (x.2.2.2 o1)), (2, .int l2), (3, .int (l3 + 1))] [] M) ∧ (¬ (M.2 (p + 1) j1) = ((M.1 o1 j1).toInt64) → P M false))))) :
    JW x tb mX9_beginsLike d (jZ P) 2 [(0, .ref (x.2.2.2 p)), (1, .ref (x.2.2.2 o1)), (2, .int l2), (3, .int l3)] [] M := by
  refine jw_iload_n (pc := 2) (j := 3) dX9_beginsLike_2 rfl rfl ?_
  refine jw_iload_n (pc := 3) (j := 2) dX9_beginsLike_3 rfl rfl ?_
  refine jw_icmp_ge (pc := 4) (tgt := 29) dX9_beginsLike_4 (by decide) (fun c => ?_) (fun c => ?_)
  · replace h := h.1 c
    refine jw_iconst (pc := 29) (v := 1) dX9_beginsLike_29 rfl ?_
    exact jw_zret (pc := 30) dX9_beginsLike_30 rfl (Or.inr rfl) ⟨true, rfl, h⟩
  · replace h := h.2 c
    refine jw_aload_n (pc := 7) (j := 0) dX9_beginsLike_7 rfl rfl ?_
    refine jw_getR (pc := 8) (r := p + 1) dX9_beginsLike_8 a0.1 fl_X9_9 (by decide) rfl rfl ?_
    refine jw_iload_n (pc := 11) (j := 3) dX9_beginsLike_11 rfl rfl ?_
    obtain ⟨j1, hj1, ej1, h⟩ := h
    refine jw_lald (pc := 12) (j := j1) dX9_beginsLike_12 a0.2 hj1 ej1 (by decide) ?_
    refine jw_aload_n (pc := 13) (j := 1) dX9_beginsLike_13 rfl rfl ?_
    refine jw_iload_n (pc := 14) (j := 3) dX9_beginsLike_14 rfl rfl ?_
    obtain ⟨hj1, h⟩ := h
    refine jw_iald (pc := 15) (j := j1) dX9_beginsLike_15 s1 hj1 ej1 z1 ?_
    refine jw_i2l (pc := 16) dX9_beginsLike_16 ?_
    refine jw_lcmp (pc := 17) dX9_beginsLike_17 ?_
    refine jw_if_eq (pc := 18) (tgt := 23) dX9_beginsLike_18 (by decide) (fun c => ?_) (fun c => ?_)
    · replace h := h.1 ((jcmp_eq _ _).mp c)
      refine jw_iinc (pc := 23) (j := 3) (u := l3 + 1) (ls' := [(3, .int (l3 + 1)), (0, .ref (x.2.2.2 p)), (1, .ref (x.2.2.2 o1)), (2, .int l2)]) dX9_beginsLike_23 rfl rfl (by decide) rfl ?_
      refine jw_goto (pc := 26) (tgt := 2) dX9_beginsLike_26 (by decide) ?_
      exact jw_sub [1, 2, 3, 0] rfl h
    · replace h := h.2 (fun z => c ((jcmp_eq _ _).mpr z))
      refine jw_iconst (pc := 21) (v := 0) dX9_beginsLike_21 rfl ?_
      exact jw_zret (pc := 22) dX9_beginsLike_22 rfl (Or.inl rfl) ⟨false, rfl, h⟩
