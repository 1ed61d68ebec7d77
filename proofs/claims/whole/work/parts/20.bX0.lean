set_option maxRecDepth 20000 in
theorem b_X0_firstStripApart {x : jX} {d : Nat} {M : jM} {P : jM → Int32 → Prop} {a2 : Int32} 
    (h : ∃ j1, j1 < 6 ∧ a2 = nI j1 ∧ (JC x jtbC mX5_lookFrom d [.ref (x.2.2.2 30), .int (M.1 35 j1), .ref (x.2.2.2 63), .ref (x.2.2.2 66), .int (0 : Int32)] M (jV fun M1 => JC x jtbC mX5_lookFrom d [.ref (x.2.2.2 30), .int (M1.1 35 j1), .ref (x.2.2.2 64), .ref (x.2.2.2 67), .int (0 : Int32)] M1 (jV fun M2 => JW x jtbC mX0_firstStripApart (d + 1) (jI P) 40 [(0, .ref (x.2.2.2 62)), (1, .ref (x.2.2.2 30)), (2, .int a2), (3, .int (0 : Int32))] [] M2)))) :
    JC x jtbC mX0_firstStripApart (d + 1) [.ref (x.2.2.2 62), .ref (x.2.2.2 30), .int a2] M (jI P) := by
  refine JC.of rfl (Nat.le_of_ble_eq_true rfl) ?_
  refine jw_ls (ls' := [(0, .ref (x.2.2.2 62)), (1, .ref (x.2.2.2 30)), (2, .int a2)]) rfl ?_
  refine jw_aload_n (pc := 0) (j := 1) dX0_firstStripApart_0 rfl rfl ?_
  refine jw_aload_n (pc := 1) (j := 1) dX0_firstStripApart_1 rfl rfl ?_
  refine jw_getR (pc := 2) (r := 35) dX0_firstStripApart_2 sC_30 fl_X0_33 (by decide) rfl rfl ?_
  refine jw_iload_n (pc := 5) (j := 2) dX0_firstStripApart_5 rfl rfl ?_
  obtain ⟨j1, hj1, ej1, h⟩ := h
  refine jw_iald (pc := 6) (j := j1) dX0_firstStripApart_6 sC_35 hj1 ej1 (by decide) ?_
  refine jw_aload_n (pc := 7) (j := 0) dX0_firstStripApart_7 rfl rfl ?_
  refine jw_getR (pc := 8) (r := 63) dX0_firstStripApart_8 sC_62 fl_X0_9 (by decide) rfl rfl ?_
  refine jw_aload_n (pc := 11) (j := 0) dX0_firstStripApart_11 rfl rfl ?_
  refine jw_getR (pc := 12) (r := 66) dX0_firstStripApart_12 sC_62 fl_X0_21 (by decide) rfl rfl ?_
  refine jw_iconst (pc := 15) (v := 0) dX0_firstStripApart_15 rfl ?_
  refine jw_callV (pc := 16) (m2 := mX5_lookFrom) (As := [.int (M.1 35 j1), .ref (x.2.2.2 63), .ref (x.2.2.2 66), .int (0 : Int32)]) (st := []) dX0_firstStripApart_16 sC_30 (by decide) rfl rfl gm_X5_lookFrom ml_X0_38 rfl (Nat.le_of_ble_eq_true rfl) (JC.mono h ?_)
  clear h
  rintro M1 _ ⟨rfl, h⟩
  refine jw_st (st' := []) rfl ?_
  refine jw_aload_n (pc := 19) (j := 1) dX0_firstStripApart_19 rfl rfl ?_
  refine jw_aload_n (pc := 20) (j := 1) dX0_firstStripApart_20 rfl rfl ?_
  refine jw_getR (pc := 21) (r := 35) dX0_firstStripApart_21 sC_30 fl_X0_33 (by decide) rfl rfl ?_
  refine jw_iload_n (pc := 24) (j := 2) dX0_firstStripApart_24 rfl rfl ?_
  refine jw_iald (pc := 25) (j := j1) dX0_firstStripApart_25 sC_35 hj1 ej1 (by decide) ?_
  refine jw_aload_n (pc := 26) (j := 0) dX0_firstStripApart_26 rfl rfl ?_
  refine jw_getR (pc := 27) (r := 64) dX0_firstStripApart_27 sC_62 fl_X0_15 (by decide) rfl rfl ?_
  refine jw_aload_n (pc := 30) (j := 0) dX0_firstStripApart_30 rfl rfl ?_
  refine jw_getR (pc := 31) (r := 67) dX0_firstStripApart_31 sC_62 fl_X0_24 (by decide) rfl rfl ?_
  refine jw_iconst (pc := 34) (v := 0) dX0_firstStripApart_34 rfl ?_
  refine jw_callV (pc := 35) (m2 := mX5_lookFrom) (As := [.int (M1.1 35 j1), .ref (x.2.2.2 64), .ref (x.2.2.2 67), .int (0 : Int32)]) (st := []) dX0_firstStripApart_35 sC_30 (by decide) rfl rfl gm_X5_lookFrom ml_X0_38 rfl (Nat.le_of_ble_eq_true rfl) (JC.mono h ?_)
  clear h
  rintro M2 _ ⟨rfl, h⟩
  refine jw_st (st' := []) rfl ?_
  refine jw_iconst (pc := 38) (v := 0) dX0_firstStripApart_38 rfl ?_
  refine jw_istore_n (pc := 39) (ls' := [(3, .int (0 : Int32)), (0, .ref (x.2.2.2 62)), (1, .ref (x.2.2.2 30)), (2, .int a2)]) dX0_firstStripApart_39 rfl (by decide) rfl ?_
  exact jw_sub [1, 2, 3, 0] rfl h
set_option maxRecDepth 20000 in
theorem b_X0_firstStripApart_40 {x : jX} {d : Nat} {M : jM} {P : jM → Int32 → Prop} {l2 : Int32} {l3 : Int32} 
    (h : JC x jtbC mX5_stripsOf d [.ref (x.2.2.2 30), .int l2] M (jI fun M1 r1 => (r1 ≤ l3 → P M1 (-1 : Int32)) ∧ (¬ r1 ≤ l3 → ∃ j1, j1 < 9 ∧ l3 = nI j1 ∧ (((M1.1 66 j1) = (M1.1 67 j1) → JW x jtbC mX0_firstStripApart (d + 1) (jI P) 40 [(0, .ref (x.2.2.2 62)), (1, .ref (x.2.2.2 30)), (2, .int l2), (3, .int (l3 + 1))] [] M1) ∧ (¬ (M1.1 66 j1) = (M1.1 67 j1) → P M1 l3))))) :
    JW x jtbC mX0_firstStripApart (d + 1) (jI P) 40 [(0, .ref (x.2.2.2 62)), (1, .ref (x.2.2.2 30)), (2, .int l2), (3, .int l3)] [] M := by
  refine jw_iload_n (pc := 40) (j := 3) dX0_firstStripApart_40 rfl rfl ?_
  refine jw_aload_n (pc := 41) (j := 1) dX0_firstStripApart_41 rfl rfl ?_
  refine jw_iload_n (pc := 42) (j := 2) dX0_firstStripApart_42 rfl rfl ?_
  refine jw_callV (pc := 43) (m2 := mX5_stripsOf) (As := [.int l2]) (st := [.int l3]) dX0_firstStripApart_43 sC_30 (by decide) rfl rfl gm_X5_stripsOf ml_X0_42 rfl (Nat.le_of_ble_eq_true rfl) (JC.mono h ?_)
  clear h
  rintro M1 _ ⟨r1, rfl, h⟩
  refine jw_st (st' := [.int r1, .int l3]) rfl ?_
  refine jw_icmp_ge (pc := 46) (tgt := 72) dX0_firstStripApart_46 (by decide) (fun c => ?_) (fun c => ?_)
  · replace h := h.1 c
    refine jw_iconst (pc := 72) (v := (-1)) dX0_firstStripApart_72 rfl ?_
    exact jw_iret (pc := 73) dX0_firstStripApart_73 rfl ⟨_, rfl, h⟩
  · replace h := h.2 c
    refine jw_aload_n (pc := 49) (j := 0) dX0_firstStripApart_49 rfl rfl ?_
    refine jw_getR (pc := 50) (r := 66) dX0_firstStripApart_50 sC_62 fl_X0_21 (by decide) rfl rfl ?_
    refine jw_iload_n (pc := 53) (j := 3) dX0_firstStripApart_53 rfl rfl ?_
    obtain ⟨j1, hj1, ej1, h⟩ := h
    refine jw_iald (pc := 54) (j := j1) dX0_firstStripApart_54 sC_66 hj1 ej1 (by decide) ?_
    refine jw_aload_n (pc := 55) (j := 0) dX0_firstStripApart_55 rfl rfl ?_
    refine jw_getR (pc := 56) (r := 67) dX0_firstStripApart_56 sC_62 fl_X0_24 (by decide) rfl rfl ?_
    refine jw_iload_n (pc := 59) (j := 3) dX0_firstStripApart_59 rfl rfl ?_
    refine jw_iald (pc := 60) (j := j1) dX0_firstStripApart_60 sC_67 hj1 ej1 (by decide) ?_
    refine jw_icmp_eq (pc := 61) (tgt := 66) dX0_firstStripApart_61 (by decide) (fun c => ?_) (fun c => ?_)
    · replace h := h.1 c
      refine jw_iinc (pc := 66) (j := 3) (u := l3 + 1) (ls' := [(3, .int (l3 + 1)), (0, .ref (x.2.2.2 62)), (1, .ref (x.2.2.2 30)), (2, .int l2)]) dX0_firstStripApart_66 rfl rfl (by decide) rfl ?_
      refine jw_goto (pc := 69) (tgt := 40) dX0_firstStripApart_69 (by decide) ?_
      exact jw_sub [1, 2, 3, 0] rfl h
    · replace h := h.2 c
      refine jw_iload_n (pc := 64) (j := 3) dX0_firstStripApart_64 rfl rfl ?_
      exact jw_iret (pc := 65) dX0_firstStripApart_65 rfl ⟨_, rfl, h⟩
set_option maxRecDepth 20000 in
theorem b_X0_fewestWatchers {x : jX} {d : Nat} {M : jM} {P : jM → Int32 → Prop} {o2 : Nat} {a3 : Int32} 
    (h : JC x jtbC mX0_tellRowsApart d [.ref (x.2.2.2 62), .ref (x.2.2.2 30), .ref (x.2.2.2 o2), .int a3] M (jV fun M1 => JW x jtbC mX0_fewestWatchers (d + 1) (jI P) 22 [(0, .ref (x.2.2.2 62)), (1, .ref (x.2.2.2 30)), (4, .int ((a3 * (a3 - (1 : Int32))) / (2 : Int32))), (5, .int (-1 : Int32)), (6, .int (0 : Int32))] [] M1)) :
    JC x jtbC mX0_fewestWatchers (d + 1) [.ref (x.2.2.2 62), .ref (x.2.2.2 30), .ref (x.2.2.2 o2), .int a3] M (jI P) := by
  refine JC.of rfl (Nat.le_of_ble_eq_true rfl) ?_
  refine jw_ls (ls' := [(0, .ref (x.2.2.2 62)), (1, .ref (x.2.2.2 30)), (2, .ref (x.2.2.2 o2)), (3, .int a3)]) rfl ?_
  refine jw_aload_n (pc := 0) (j := 0) dX0_fewestWatchers_0 rfl rfl ?_
  refine jw_aload_n (pc := 1) (j := 1) dX0_fewestWatchers_1 rfl rfl ?_
  refine jw_aload_n (pc := 2) (j := 2) dX0_fewestWatchers_2 rfl rfl ?_
  refine jw_iload_n (pc := 3) (j := 3) dX0_fewestWatchers_3 rfl rfl ?_
  refine jw_callV (pc := 4) (m2 := mX0_tellRowsApart) (As := [.ref (x.2.2.2 30), .ref (x.2.2.2 o2), .int a3]) (st := []) dX0_fewestWatchers_4 sC_62 (by decide) rfl rfl gm_X0_tellRowsApart ml_X0_46 rfl (Nat.le_of_ble_eq_true rfl) (JC.mono h ?_)
  clear h
  rintro M1 _ ⟨rfl, h⟩
  refine jw_st (st' := []) rfl ?_
  refine jw_iload_n (pc := 7) (j := 3) dX0_fewestWatchers_7 rfl rfl ?_
  refine jw_iload_n (pc := 8) (j := 3) dX0_fewestWatchers_8 rfl rfl ?_
  refine jw_iconst (pc := 9) (v := 1) dX0_fewestWatchers_9 rfl ?_
  refine jw_isub (pc := 10) dX0_fewestWatchers_10 ?_
  refine jw_imul (pc := 11) dX0_fewestWatchers_11 ?_
  refine jw_iconst (pc := 12) (v := 2) dX0_fewestWatchers_12 rfl ?_
  refine jw_idiv (pc := 13) dX0_fewestWatchers_13 (by decide) ?_
  refine jw_istore (pc := 14) (ls' := [(4, .int ((a3 * (a3 - (1 : Int32))) / (2 : Int32))), (0, .ref (x.2.2.2 62)), (1, .ref (x.2.2.2 30)), (2, .ref (x.2.2.2 o2)), (3, .int a3)]) dX0_fewestWatchers_14 (by decide) rfl ?_
  refine jw_iconst (pc := 16) (v := (-1)) dX0_fewestWatchers_16 rfl ?_
  refine jw_istore (pc := 17) (ls' := [(5, .int (-1 : Int32)), (4, .int ((a3 * (a3 - (1 : Int32))) / (2 : Int32))), (0, .ref (x.2.2.2 62)), (1, .ref (x.2.2.2 30)), (2, .ref (x.2.2.2 o2)), (3, .int a3)]) dX0_fewestWatchers_17 (by decide) rfl ?_
  refine jw_iconst (pc := 19) (v := 0) dX0_fewestWatchers_19 rfl ?_
  refine jw_istore (pc := 20) (ls' := [(6, .int (0 : Int32)), (5, .int (-1 : Int32)), (4, .int ((a3 * (a3 - (1 : Int32))) / (2 : Int32))), (0, .ref (x.2.2.2 62)), (1, .ref (x.2.2.2 30)), (2, .ref (x.2.2.2 o2)), (3, .int a3)]) dX0_fewestWatchers_20 (by decide) rfl ?_
  exact jw_sub [3, 4, 2, 1, 0] rfl h
set_option maxRecDepth 20000 in
theorem b_X0_fewestWatchers_22 {x : jX} {d : Nat} {M : jM} {P : jM → Int32 → Prop} {l4 : Int32} {l5 : Int32} {l6 : Int32} 
    (h : (((1 : Int32) <<< ((M.1 30 3) &&& 31)) ≤ l6 → P M l5) ∧ (¬ ((1 : Int32) <<< ((M.1 30 3) &&& 31)) ≤ l6 → (l5 = (-1 : Int32) → JW x jtbC mX0_fewestWatchers (d + 1) (jI P) 57 [(0, .ref (x.2.2.2 62)), (1, .ref (x.2.2.2 30)), (4, .int l4), (5, .int l5), (6, .int l6)] [.int (1 : Int32)] M) ∧ (¬ l5 = (-1 : Int32) → JC x jtbC mJ6_bitCount_0f7a4 d [.int l6] M (jI fun M1 r1 => JC x jtbC mJ6_bitCount_0f7a4 d [.int l5] M1 (jI fun M2 r2 => (r2 ≤ r1 → JW x jtbC mX0_fewestWatchers (d + 1) (jI P) 57 [(0, .ref (x.2.2.2 62)), (1, .ref (x.2.2.2 30)), (4, .int l4), (5, .int l5), (6, .int l6)] [.int (0 : Int32)] M2) ∧ (¬ r2 ≤ r1 → JW x jtbC mX0_fewestWatchers (d + 1) (jI P) 57 [(0, .ref (x.2.2.2 62)), (1, .ref (x.2.2.2 30)), (4, .int l4), (5, .int l5), (6, .int l6)] [.int (1 : Int32)] M2)))))) :
    JW x jtbC mX0_fewestWatchers (d + 1) (jI P) 22 [(0, .ref (x.2.2.2 62)), (1, .ref (x.2.2.2 30)), (4, .int l4), (5, .int l5), (6, .int l6)] [] M := by
  refine jw_iload (pc := 22) (j := 4) dX0_fewestWatchers_22 rfl ?_
  refine jw_iconst (pc := 24) (v := 1) dX0_fewestWatchers_24 rfl ?_
  refine jw_aload_n (pc := 25) (j := 1) dX0_fewestWatchers_25 rfl rfl ?_
  refine jw_getI (pc := 26) dX0_fewestWatchers_26 sC_30 fl_X0_50 (by decide) rfl ?_
  refine jw_ishl (pc := 29) dX0_fewestWatchers_29 ?_
  refine jw_icmp_ge (pc := 30) (tgt := 89) dX0_fewestWatchers_30 (by decide) (fun c => ?_) (fun c => ?_)
  · replace h := h.1 c
    refine jw_iload (pc := 89) (j := 3) dX0_fewestWatchers_89 rfl ?_
    exact jw_iret (pc := 91) dX0_fewestWatchers_91 rfl ⟨_, rfl, h⟩
  · replace h := h.2 c
    refine jw_iload (pc := 33) (j := 3) dX0_fewestWatchers_33 rfl ?_
    refine jw_iconst (pc := 35) (v := (-1)) dX0_fewestWatchers_35 rfl ?_
    refine jw_icmp_eq (pc := 36) (tgt := 52) dX0_fewestWatchers_36 (by decide) (fun c => ?_) (fun c => ?_)
    · replace h := h.1 c
      refine jw_iconst (pc := 52) (v := 1) dX0_fewestWatchers_52 rfl ?_
      refine jw_goto (pc := 53) (tgt := 57) dX0_fewestWatchers_53 (by decide) ?_
      exact jw_sub [0, 1, 2, 3, 4] rfl h
    · replace h := h.2 c
      refine jw_iload (pc := 39) (j := 4) dX0_fewestWatchers_39 rfl ?_
      refine jw_callS (pc := 41) (m2 := mJ6_bitCount_0f7a4) (As := [.int l6]) (st := []) dX0_fewestWatchers_41 gm_J6_bitCount_0f7a4 ml_X0_54 rfl (Nat.le_of_ble_eq_true rfl) (JC.mono h ?_)
      clear h
      rintro M1 _ ⟨r1, rfl, h⟩
      refine jw_st (st' := [.int r1]) rfl ?_
      refine jw_iload (pc := 44) (j := 3) dX0_fewestWatchers_44 rfl ?_
      refine jw_callS (pc := 46) (m2 := mJ6_bitCount_0f7a4) (As := [.int l5]) (st := [.int r1]) dX0_fewestWatchers_46 gm_J6_bitCount_0f7a4 ml_X0_54 rfl (Nat.le_of_ble_eq_true rfl) (JC.mono h ?_)
      clear h
      rintro M2 _ ⟨r2, rfl, h⟩
      refine jw_st (st' := [.int r2, .int r1]) rfl ?_
      refine jw_icmp_ge (pc := 49) (tgt := 56) dX0_fewestWatchers_49 (by decide) (fun c => ?_) (fun c => ?_)
      · replace h := h.1 c
        refine jw_iconst (pc := 56) (v := 0) dX0_fewestWatchers_56 rfl ?_
        exact jw_sub [0, 1, 2, 3, 4] rfl h
      · replace h := h.2 c
        refine jw_iconst (pc := 52) (v := 1) dX0_fewestWatchers_52 rfl ?_
        refine jw_goto (pc := 53) (tgt := 57) dX0_fewestWatchers_53 (by decide) ?_
        exact jw_sub [0, 1, 2, 3, 4] rfl h
set_option maxRecDepth 20000 in
theorem b_X0_fewestWatchers_57 {x : jX} {d : Nat} {M : jM} {P : jM → Int32 → Prop} {l4 : Int32} {l5 : Int32} {l6 : Int32} {k0 : Int32} 
    (h : (k0 = 0 → JW x jtbC mX0_fewestWatchers (d + 1) (jI P) 22 [(0, .ref (x.2.2.2 62)), (1, .ref (x.2.2.2 30)), (4, .int l4), (5, .int l5), (6, .int (l6 + 1))] [] M) ∧ (¬ k0 = 0 → JC x jtbC mX0_couplesTold d [.ref (x.2.2.2 62), .int l6] M (jI fun M1 r1 => (¬ r1 = (((1 : Int32) <<< (l4 &&& 31)) - (1 : Int32)) → JW x jtbC mX0_fewestWatchers (d + 1) (jI P) 22 [(0, .ref (x.2.2.2 62)), (1, .ref (x.2.2.2 30)), (4, .int l4), (5, .int l5), (6, .int (l6 + 1))] [] M1) ∧ (r1 = (((1 : Int32) <<< (l4 &&& 31)) - (1 : Int32)) → JW x jtbC mX0_fewestWatchers (d + 1) (jI P) 22 [(0, .ref (x.2.2.2 62)), (1, .ref (x.2.2.2 30)), (4, .int l4), (5, .int l6), (6, .int (l6 + 1))] [] M1)))) :
    JW x jtbC mX0_fewestWatchers (d + 1) (jI P) 57 [(0, .ref (x.2.2.2 62)), (1, .ref (x.2.2.2 30)), (4, .int l4), (5, .int l5), (6, .int l6)] [.int k0] M := by
  refine jw_istore (pc := 57) (ls' := [(7, .int k0), (0, .ref (x.2.2.2 62)), (1, .ref (x.2.2.2 30)), (4, .int l4), (5, .int l5), (6, .int l6)]) dX0_fewestWatchers_57 (by decide) rfl ?_
  refine jw_iload (pc := 59) (j := 0) dX0_fewestWatchers_59 rfl ?_
  refine jw_if_eq (pc := 61) (tgt := 83) dX0_fewestWatchers_61 (by decide) (fun c => ?_) (fun c => ?_)
  · replace h := h.1 c
    refine jw_iinc (pc := 83) (j := 5) (u := l6 + 1) (ls' := [(6, .int (l6 + 1)), (7, .int k0), (0, .ref (x.2.2.2 62)), (1, .ref (x.2.2.2 30)), (4, .int l4), (5, .int l5)]) dX0_fewestWatchers_83 rfl rfl (by decide) rfl ?_
    refine jw_goto (pc := 86) (tgt := 22) dX0_fewestWatchers_86 (by decide) ?_
    exact jw_sub [2, 3, 4, 5, 0] rfl h
  · replace h := h.2 c
    refine jw_aload_n (pc := 64) (j := 1) dX0_fewestWatchers_64 rfl rfl ?_
    refine jw_iload (pc := 65) (j := 5) dX0_fewestWatchers_65 rfl ?_
    refine jw_callV (pc := 67) (m2 := mX0_couplesTold) (As := [.int l6]) (st := []) dX0_fewestWatchers_67 sC_62 (by decide) rfl rfl gm_X0_couplesTold ml_X0_59 rfl (Nat.le_of_ble_eq_true rfl) (JC.mono h ?_)
    clear h
    rintro M1 _ ⟨r1, rfl, h⟩
    refine jw_st (st' := [.int r1]) rfl ?_
    refine jw_iconst (pc := 70) (v := 1) dX0_fewestWatchers_70 rfl ?_
    refine jw_iload (pc := 71) (j := 3) dX0_fewestWatchers_71 rfl ?_
    refine jw_ishl (pc := 73) dX0_fewestWatchers_73 ?_
    refine jw_iconst (pc := 74) (v := 1) dX0_fewestWatchers_74 rfl ?_
    refine jw_isub (pc := 75) dX0_fewestWatchers_75 ?_
    refine jw_icmp_ne (pc := 76) (tgt := 83) dX0_fewestWatchers_76 (by decide) (fun c => ?_) (fun c => ?_)
    · replace h := h.1 c
      refine jw_iinc (pc := 83) (j := 5) (u := l6 + 1) (ls' := [(6, .int (l6 + 1)), (7, .int k0), (0, .ref (x.2.2.2 62)), (1, .ref (x.2.2.2 30)), (4, .int l4), (5, .int l5)]) dX0_fewestWatchers_83 rfl rfl (by decide) rfl ?_
      refine jw_goto (pc := 86) (tgt := 22) dX0_fewestWatchers_86 (by decide) ?_
      exact jw_sub [2, 3, 4, 5, 0] rfl h
    · replace h := h.2 c
      refine jw_iload (pc := 79) (j := 5) dX0_fewestWatchers_79 rfl ?_
      refine jw_istore (pc := 81) (ls' := [(5, .int l6), (7, .int k0), (0, .ref (x.2.2.2 62)), (1, .ref (x.2.2.2 30)), (4, .int l4), (6, .int l6)]) dX0_fewestWatchers_81 (by decide) rfl ?_
      refine jw_iinc (pc := 83) (j := 5) (u := l6 + 1) (ls' := [(6, .int (l6 + 1)), (5, .int l6), (7, .int k0), (0, .ref (x.2.2.2 62)), (1, .ref (x.2.2.2 30)), (4, .int l4)]) dX0_fewestWatchers_83 rfl rfl (by decide) rfl ?_
      refine jw_goto (pc := 86) (tgt := 22) dX0_fewestWatchers_86 (by decide) ?_
      exact jw_sub [3, 4, 5, 1, 0] rfl h
set_option maxRecDepth 20000 in
theorem b_X0_tellRowsApart {x : jX} {d : Nat} {M : jM} {P : jM → Prop} {o2 : Nat} {a3 : Int32} 
    (h : JC x jtbC mJ7_fill_53178 d [.ref (x.2.2.2 68), .int (0 : Int32)] M (jV fun M1 => JW x jtbC mX0_tellRowsApart (d + 1) (jV P) 14 [(0, .ref (x.2.2.2 62)), (1, .ref (x.2.2.2 30)), (2, .ref (x.2.2.2 o2)), (3, .int a3), (4, .int (0 : Int32)), (5, .int (0 : Int32))] [] M1)) :
    JC x jtbC mX0_tellRowsApart (d + 1) [.ref (x.2.2.2 62), .ref (x.2.2.2 30), .ref (x.2.2.2 o2), .int a3] M (jV P) := by
  refine JC.of rfl (Nat.le_of_ble_eq_true rfl) ?_
  refine jw_ls (ls' := [(0, .ref (x.2.2.2 62)), (1, .ref (x.2.2.2 30)), (2, .ref (x.2.2.2 o2)), (3, .int a3)]) rfl ?_
  refine jw_aload_n (pc := 0) (j := 0) dX0_tellRowsApart_0 rfl rfl ?_
  refine jw_getR (pc := 1) (r := 68) dX0_tellRowsApart_1 sC_62 fl_X0_27 (by decide) rfl rfl ?_
  refine jw_iconst (pc := 4) (v := 0) dX0_tellRowsApart_4 rfl ?_
  refine jw_callS (pc := 5) (m2 := mJ7_fill_53178) (As := [.ref (x.2.2.2 68), .int (0 : Int32)]) (st := []) dX0_tellRowsApart_5 gm_J7_fill_53178 ml_X0_62 rfl (Nat.le_of_ble_eq_true rfl) (JC.mono h ?_)
  clear h
  rintro M1 _ ⟨rfl, h⟩
  refine jw_st (st' := []) rfl ?_
  refine jw_iconst (pc := 8) (v := 0) dX0_tellRowsApart_8 rfl ?_
  refine jw_istore (pc := 9) (ls' := [(4, .int (0 : Int32)), (0, .ref (x.2.2.2 62)), (1, .ref (x.2.2.2 30)), (2, .ref (x.2.2.2 o2)), (3, .int a3)]) dX0_tellRowsApart_9 (by decide) rfl ?_
  refine jw_iconst (pc := 11) (v := 0) dX0_tellRowsApart_11 rfl ?_
  refine jw_istore (pc := 12) (ls' := [(5, .int (0 : Int32)), (4, .int (0 : Int32)), (0, .ref (x.2.2.2 62)), (1, .ref (x.2.2.2 30)), (2, .ref (x.2.2.2 o2)), (3, .int a3)]) dX0_tellRowsApart_12 (by decide) rfl ?_
  exact jw_sub [2, 3, 4, 5, 1, 0] rfl h
set_option maxRecDepth 20000 in
theorem b_X0_tellRowsApart_14 {x : jX} {d : Nat} {M : jM} {P : jM → Prop} {o2 : Nat} {l3 : Int32} {l4 : Int32} {l5 : Int32} (b2 : aX9 jtbC o2)
    (h : (l3 ≤ l5 → P M) ∧ (¬ l3 ≤ l5 → JC x jtbC mX9_copyHeights d [.ref (x.2.2.2 o2), .int (l5 * (M.1 30 2)), .int (M.1 30 2), .ref (x.2.2.2 63), .int (0 : Int32)] M (jV fun M1 => JW x jtbC mX0_tellRowsApart (d + 1) (jV P) 46 [(0, .ref (x.2.2.2 62)), (1, .ref (x.2.2.2 30)), (2, .ref (x.2.2.2 o2)), (3, .int l3), (4, .int l4), (5, .int l5), (6, .int (l5 + (1 : Int32)))] [] M1))) :
    JW x jtbC mX0_tellRowsApart (d + 1) (jV P) 14 [(0, .ref (x.2.2.2 62)), (1, .ref (x.2.2.2 30)), (2, .ref (x.2.2.2 o2)), (3, .int l3), (4, .int l4), (5, .int l5)] [] M := by
  refine jw_iload (pc := 14) (j := 5) dX0_tellRowsApart_14 rfl ?_
  refine jw_iload_n (pc := 16) (j := 3) dX0_tellRowsApart_16 rfl rfl ?_
  refine jw_icmp_ge (pc := 17) (tgt := 134) dX0_tellRowsApart_17 (by decide) (fun c => ?_) (fun c => ?_)
  · replace h := h.1 c
    exact jw_vret (pc := 134) dX0_tellRowsApart_134 rfl ⟨rfl, h⟩
  · replace h := h.2 c
    refine jw_aload_n (pc := 20) (j := 2) dX0_tellRowsApart_20 rfl rfl ?_
    refine jw_iload (pc := 21) (j := 5) dX0_tellRowsApart_21 rfl ?_
    refine jw_aload_n (pc := 23) (j := 1) dX0_tellRowsApart_23 rfl rfl ?_
    refine jw_getI (pc := 24) dX0_tellRowsApart_24 sC_30 fl_X0_68 (by decide) rfl ?_
    refine jw_imul (pc := 27) dX0_tellRowsApart_27 ?_
    refine jw_aload_n (pc := 28) (j := 1) dX0_tellRowsApart_28 rfl rfl ?_
    refine jw_getI (pc := 29) dX0_tellRowsApart_29 sC_30 fl_X0_68 (by decide) rfl ?_
    refine jw_aload_n (pc := 32) (j := 0) dX0_tellRowsApart_32 rfl rfl ?_
    refine jw_getR (pc := 33) (r := 63) dX0_tellRowsApart_33 sC_62 fl_X0_9 (by decide) rfl rfl ?_
    refine jw_iconst (pc := 36) (v := 0) dX0_tellRowsApart_36 rfl ?_
    refine jw_callV (pc := 37) (m2 := mX9_copyHeights) (As := [.int (l5 * (M.1 30 2)), .int (M.1 30 2), .ref (x.2.2.2 63), .int (0 : Int32)]) (st := []) dX0_tellRowsApart_37 b2.1 (by decide) rfl rfl gm_X9_copyHeights ml_X0_71 rfl (Nat.le_of_ble_eq_true rfl) (JC.mono h ?_)
    clear h
    rintro M1 _ ⟨rfl, h⟩
    refine jw_st (st' := []) rfl ?_
    refine jw_iload (pc := 40) (j := 5) dX0_tellRowsApart_40 rfl ?_
    refine jw_iconst (pc := 42) (v := 1) dX0_tellRowsApart_42 rfl ?_
    refine jw_iadd (pc := 43) dX0_tellRowsApart_43 ?_
    refine jw_istore (pc := 44) (ls' := [(6, .int (l5 + (1 : Int32))), (0, .ref (x.2.2.2 62)), (1, .ref (x.2.2.2 30)), (2, .ref (x.2.2.2 o2)), (3, .int l3), (4, .int l4), (5, .int l5)]) dX0_tellRowsApart_44 (by decide) rfl ?_
    exact jw_sub [1, 2, 3, 4, 5, 6, 0] rfl h
set_option maxRecDepth 20000 in
theorem b_X0_tellRowsApart_46 {x : jX} {d : Nat} {M : jM} {P : jM → Prop} {o2 : Nat} {l3 : Int32} {l4 : Int32} {l5 : Int32} {l6 : Int32} (b2 : aX9 jtbC o2)
    (h : (l3 ≤ l6 → JW x jtbC mX0_tellRowsApart (d + 1) (jV P) 14 [(0, .ref (x.2.2.2 62)), (1, .ref (x.2.2.2 30)), (2, .ref (x.2.2.2 o2)), (3, .int l3), (4, .int l4), (5, .int (l5 + 1))] [] M) ∧ (¬ l3 ≤ l6 → JC x jtbC mX9_copyHeights d [.ref (x.2.2.2 o2), .int (l6 * (M.1 30 2)), .int (M.1 30 2), .ref (x.2.2.2 64), .int (0 : Int32)] M (jV fun M1 => JW x jtbC mX0_tellRowsApart (d + 1) (jV P) 75 [(0, .ref (x.2.2.2 62)), (1, .ref (x.2.2.2 30)), (2, .ref (x.2.2.2 o2)), (3, .int l3), (4, .int l4), (5, .int l5), (6, .int l6), (7, .int (0 : Int32))] [] M1))) :
    JW x jtbC mX0_tellRowsApart (d + 1) (jV P) 46 [(0, .ref (x.2.2.2 62)), (1, .ref (x.2.2.2 30)), (2, .ref (x.2.2.2 o2)), (3, .int l3), (4, .int l4), (5, .int l5), (6, .int l6)] [] M := by
  refine jw_iload (pc := 46) (j := 6) dX0_tellRowsApart_46 rfl ?_
  refine jw_iload_n (pc := 48) (j := 3) dX0_tellRowsApart_48 rfl rfl ?_
  refine jw_icmp_ge (pc := 49) (tgt := 128) dX0_tellRowsApart_49 (by decide) (fun c => ?_) (fun c => ?_)
  · replace h := h.1 c
    refine jw_iinc (pc := 128) (j := 5) (u := l5 + 1) (ls' := [(5, .int (l5 + 1)), (0, .ref (x.2.2.2 62)), (1, .ref (x.2.2.2 30)), (2, .ref (x.2.2.2 o2)), (3, .int l3), (4, .int l4), (6, .int l6)]) dX0_tellRowsApart_128 rfl rfl (by decide) rfl ?_
    refine jw_goto (pc := 131) (tgt := 14) dX0_tellRowsApart_131 (by decide) ?_
    exact jw_sub [1, 2, 3, 4, 5, 0] rfl h
  · replace h := h.2 c
    refine jw_aload_n (pc := 52) (j := 2) dX0_tellRowsApart_52 rfl rfl ?_
    refine jw_iload (pc := 53) (j := 6) dX0_tellRowsApart_53 rfl ?_
    refine jw_aload_n (pc := 55) (j := 1) dX0_tellRowsApart_55 rfl rfl ?_
    refine jw_getI (pc := 56) dX0_tellRowsApart_56 sC_30 fl_X0_68 (by decide) rfl ?_
    refine jw_imul (pc := 59) dX0_tellRowsApart_59 ?_
    refine jw_aload_n (pc := 60) (j := 1) dX0_tellRowsApart_60 rfl rfl ?_
    refine jw_getI (pc := 61) dX0_tellRowsApart_61 sC_30 fl_X0_68 (by decide) rfl ?_
    refine jw_aload_n (pc := 64) (j := 0) dX0_tellRowsApart_64 rfl rfl ?_
    refine jw_getR (pc := 65) (r := 64) dX0_tellRowsApart_65 sC_62 fl_X0_15 (by decide) rfl rfl ?_
    refine jw_iconst (pc := 68) (v := 0) dX0_tellRowsApart_68 rfl ?_
    refine jw_callV (pc := 69) (m2 := mX9_copyHeights) (As := [.int (l6 * (M.1 30 2)), .int (M.1 30 2), .ref (x.2.2.2 64), .int (0 : Int32)]) (st := []) dX0_tellRowsApart_69 b2.1 (by decide) rfl rfl gm_X9_copyHeights ml_X0_71 rfl (Nat.le_of_ble_eq_true rfl) (JC.mono h ?_)
    clear h
    rintro M1 _ ⟨rfl, h⟩
    refine jw_st (st' := []) rfl ?_
    refine jw_iconst (pc := 72) (v := 0) dX0_tellRowsApart_72 rfl ?_
    refine jw_istore (pc := 73) (ls' := [(7, .int (0 : Int32)), (0, .ref (x.2.2.2 62)), (1, .ref (x.2.2.2 30)), (2, .ref (x.2.2.2 o2)), (3, .int l3), (4, .int l4), (5, .int l5), (6, .int l6)]) dX0_tellRowsApart_73 (by decide) rfl ?_
    exact jw_sub [1, 2, 3, 4, 5, 6, 7, 0] rfl h
set_option maxRecDepth 20000 in
theorem b_X0_tellRowsApart_75 {x : jX} {d : Nat} {M : jM} {P : jM → Prop} {o2 : Nat} {l3 : Int32} {l4 : Int32} {l5 : Int32} {l6 : Int32} {l7 : Int32} 
    (h : ((M.1 30 3) ≤ l7 → JW x jtbC mX0_tellRowsApart (d + 1) (jV P) 46 [(0, .ref (x.2.2.2 62)), (1, .ref (x.2.2.2 30)), (2, .ref (x.2.2.2 o2)), (3, .int l3), (4, .int (l4 + 1)), (5, .int l5), (6, .int (l6 + 1))] [] M) ∧ (¬ (M.1 30 3) ≤ l7 → ∃ j1, j1 < 6 ∧ l7 = nI j1 ∧ (JC x jtbC mX0_firstStripApart d [.ref (x.2.2.2 62), .ref (x.2.2.2 30), .int l7] M (jI fun M1 r1 => (¬ r1 = (-1 : Int32) → ∀ M2, M2 = jrI M1 68 (upd (M1.1 68) j1 ((M.1 68 j1) ||| ((1 : Int32) <<< (l4 &&& 31)))) → JW x jtbC mX0_tellRowsApart (d + 1) (jV P) 75 [(0, .ref (x.2.2.2 62)), (1, .ref (x.2.2.2 30)), (2, .ref (x.2.2.2 o2)), (3, .int l3), (4, .int l4), (5, .int l5), (6, .int l6), (7, .int (l7 + 1))] [] M2) ∧ (r1 = (-1 : Int32) → ∀ M3, M3 = jrI M1 68 (upd (M1.1 68) j1 ((M.1 68 j1) ||| (0 : Int32))) → JW x jtbC mX0_tellRowsApart (d + 1) (jV P) 75 [(0, .ref (x.2.2.2 62)), (1, .ref (x.2.2.2 30)), (2, .ref (x.2.2.2 o2)), (3, .int l3), (4, .int l4), (5, .int l5), (6, .int l6), (7, .int (l7 + 1))] [] M3))))) :
    JW x jtbC mX0_tellRowsApart (d + 1) (jV P) 75 [(0, .ref (x.2.2.2 62)), (1, .ref (x.2.2.2 30)), (2, .ref (x.2.2.2 o2)), (3, .int l3), (4, .int l4), (5, .int l5), (6, .int l6), (7, .int l7)] [] M := by
  refine jw_iload (pc := 75) (j := 7) dX0_tellRowsApart_75 rfl ?_
  refine jw_aload_n (pc := 77) (j := 1) dX0_tellRowsApart_77 rfl rfl ?_
  refine jw_getI (pc := 78) dX0_tellRowsApart_78 sC_30 fl_X0_50 (by decide) rfl ?_
  refine jw_icmp_ge (pc := 81) (tgt := 119) dX0_tellRowsApart_81 (by decide) (fun c => ?_) (fun c => ?_)
  · replace h := h.1 c
    refine jw_iinc (pc := 119) (j := 4) (u := l4 + 1) (ls' := [(4, .int (l4 + 1)), (0, .ref (x.2.2.2 62)), (1, .ref (x.2.2.2 30)), (2, .ref (x.2.2.2 o2)), (3, .int l3), (5, .int l5), (6, .int l6), (7, .int l7)]) dX0_tellRowsApart_119 rfl rfl (by decide) rfl ?_
    refine jw_iinc (pc := 122) (j := 6) (u := l6 + 1) (ls' := [(6, .int (l6 + 1)), (4, .int (l4 + 1)), (0, .ref (x.2.2.2 62)), (1, .ref (x.2.2.2 30)), (2, .ref (x.2.2.2 o2)), (3, .int l3), (5, .int l5), (7, .int l7)]) dX0_tellRowsApart_122 rfl rfl (by decide) rfl ?_
    refine jw_goto (pc := 125) (tgt := 46) dX0_tellRowsApart_125 (by decide) ?_
    exact jw_sub [2, 3, 4, 5, 1, 6, 0] rfl h
  · replace h := h.2 c
    refine jw_aload_n (pc := 84) (j := 0) dX0_tellRowsApart_84 rfl rfl ?_
    refine jw_getR (pc := 85) (r := 68) dX0_tellRowsApart_85 sC_62 fl_X0_27 (by decide) rfl rfl ?_
    refine jw_iload (pc := 88) (j := 7) dX0_tellRowsApart_88 rfl ?_
    refine jw_dup2 (pc := 90) dX0_tellRowsApart_90 rfl rfl ?_
    obtain ⟨j1, hj1, ej1, h⟩ := h
    refine jw_iald (pc := 91) (j := j1) dX0_tellRowsApart_91 sC_68 hj1 ej1 (by decide) ?_
    refine jw_aload_n (pc := 92) (j := 0) dX0_tellRowsApart_92 rfl rfl ?_
    refine jw_aload_n (pc := 93) (j := 1) dX0_tellRowsApart_93 rfl rfl ?_
    refine jw_iload (pc := 94) (j := 7) dX0_tellRowsApart_94 rfl ?_
    refine jw_callV (pc := 96) (m2 := mX0_firstStripApart) (As := [.ref (x.2.2.2 30), .int l7]) (st := [.int (M.1 68 j1), .int l7, .ref (x.2.2.2 68)]) dX0_tellRowsApart_96 sC_62 (by decide) rfl rfl gm_X0_firstStripApart ml_X0_77 rfl (Nat.le_of_ble_eq_true rfl) (JC.mono h ?_)
    clear h
    rintro M1 _ ⟨r1, rfl, h⟩
    refine jw_st (st' := [.int r1, .int (M.1 68 j1), .int l7, .ref (x.2.2.2 68)]) rfl ?_
    refine jw_iconst (pc := 99) (v := (-1)) dX0_tellRowsApart_99 rfl ?_
    refine jw_icmp_ne (pc := 100) (tgt := 107) dX0_tellRowsApart_100 (by decide) (fun c => ?_) (fun c => ?_)
    · replace h := h.1 c
      refine jw_iconst (pc := 107) (v := 1) dX0_tellRowsApart_107 rfl ?_
      refine jw_iload (pc := 108) (j := 4) dX0_tellRowsApart_108 rfl ?_
      refine jw_ishl (pc := 110) dX0_tellRowsApart_110 ?_
      refine jw_ior (pc := 111) dX0_tellRowsApart_111 ?_
      refine jw_iast (pc := 112) (j := j1) dX0_tellRowsApart_112 sC_68 hj1 ej1 (by decide) ?_
      replace h := h _ rfl
      generalize jrI M1 68 (upd (M1.1 68) j1 ((M.1 68 j1) ||| ((1 : Int32) <<< (l4 &&& 31)))) = M2 at h ⊢
      refine jw_iinc (pc := 113) (j := 7) (u := l7 + 1) (ls' := [(7, .int (l7 + 1)), (0, .ref (x.2.2.2 62)), (1, .ref (x.2.2.2 30)), (2, .ref (x.2.2.2 o2)), (3, .int l3), (4, .int l4), (5, .int l5), (6, .int l6)]) dX0_tellRowsApart_113 rfl rfl (by decide) rfl ?_
      refine jw_goto (pc := 116) (tgt := 75) dX0_tellRowsApart_116 (by decide) ?_
      exact jw_sub [1, 2, 3, 4, 5, 6, 7, 0] rfl h
    · replace h := h.2 c
      refine jw_iconst (pc := 103) (v := 0) dX0_tellRowsApart_103 rfl ?_
      refine jw_goto (pc := 104) (tgt := 111) dX0_tellRowsApart_104 (by decide) ?_
      refine jw_ior (pc := 111) dX0_tellRowsApart_111 ?_
      refine jw_iast (pc := 112) (j := j1) dX0_tellRowsApart_112 sC_68 hj1 ej1 (by decide) ?_
      replace h := h _ rfl
      generalize jrI M1 68 (upd (M1.1 68) j1 ((M.1 68 j1) ||| (0 : Int32))) = M3 at h ⊢
      refine jw_iinc (pc := 113) (j := 7) (u := l7 + 1) (ls' := [(7, .int (l7 + 1)), (0, .ref (x.2.2.2 62)), (1, .ref (x.2.2.2 30)), (2, .ref (x.2.2.2 o2)), (3, .int l3), (4, .int l4), (5, .int l5), (6, .int l6)]) dX0_tellRowsApart_113 rfl rfl (by decide) rfl ?_
      refine jw_goto (pc := 116) (tgt := 75) dX0_tellRowsApart_116 (by decide) ?_
      exact jw_sub [1, 2, 3, 4, 5, 6, 7, 0] rfl h
set_option maxRecDepth 20000 in
theorem b_X0_couplesTold {x : jX} {d : Nat} {M : jM} {P : jM → Int32 → Prop} {a1 : Int32} 
    (h : JW x jtbC mX0_couplesTold d (jI P) 4 [(0, .ref (x.2.2.2 62)), (1, .int a1), (2, .int (0 : Int32)), (3, .int (0 : Int32))] [] M) :
    JC x jtbC mX0_couplesTold d [.ref (x.2.2.2 62), .int a1] M (jI P) := by
  refine JC.of rfl (Nat.le_of_ble_eq_true rfl) ?_
  refine jw_ls (ls' := [(0, .ref (x.2.2.2 62)), (1, .int a1)]) rfl ?_
  refine jw_iconst (pc := 0) (v := 0) dX0_couplesTold_0 rfl ?_
  refine jw_istore_n (pc := 1) (ls' := [(2, .int (0 : Int32)), (0, .ref (x.2.2.2 62)), (1, .int a1)]) dX0_couplesTold_1 rfl (by decide) rfl ?_
  refine jw_iconst (pc := 2) (v := 0) dX0_couplesTold_2 rfl ?_
  refine jw_istore_n (pc := 3) (ls' := [(3, .int (0 : Int32)), (2, .int (0 : Int32)), (0, .ref (x.2.2.2 62)), (1, .int a1)]) dX0_couplesTold_3 rfl (by decide) rfl ?_
  exact jw_sub [2, 3, 1, 0] rfl h
set_option maxRecDepth 20000 in
theorem b_X0_couplesTold_4 {x : jX} {d : Nat} {M : jM} {P : jM → Int32 → Prop} {l1 : Int32} {l2 : Int32} {l3 : Int32} 
    (h : ((6 : Int32) ≤ l3 → P M l2) ∧ (¬ (6 : Int32) ≤ l3 → (¬ ((l1 >>> (l3 &&& 31)) &&& (1 : Int32)) = (1 : Int32) → JW x jtbC mX0_couplesTold d (jI P) 4 [(0, .ref (x.2.2.2 62)), (1, .int l1), (2, .int (l2 ||| (0 : Int32))), (3, .int (l3 + 1))] [] M) ∧ (((l1 >>> (l3 &&& 31)) &&& (1 : Int32)) = (1 : Int32) → ∃ j1, j1 < 6 ∧ l3 = nI j1 ∧ (JW x jtbC mX0_couplesTold d (jI P) 4 [(0, .ref (x.2.2.2 62)), (1, .int l1), (2, .int (l2 ||| (M.1 68 j1))), (3, .int (l3 + 1))] [] M)))) :
    JW x jtbC mX0_couplesTold d (jI P) 4 [(0, .ref (x.2.2.2 62)), (1, .int l1), (2, .int l2), (3, .int l3)] [] M := by
  refine jw_iload_n (pc := 4) (j := 3) dX0_couplesTold_4 rfl rfl ?_
  refine jw_bipush (pc := 5) (v := 6) dX0_couplesTold_5 rfl ?_
  refine jw_icmp_ge (pc := 7) (tgt := 38) dX0_couplesTold_7 (by decide) (fun c => ?_) (fun c => ?_)
  · replace h := h.1 c
    refine jw_iload_n (pc := 38) (j := 2) dX0_couplesTold_38 rfl rfl ?_
    exact jw_iret (pc := 39) dX0_couplesTold_39 rfl ⟨_, rfl, h⟩
  · replace h := h.2 c
    refine jw_iload_n (pc := 10) (j := 2) dX0_couplesTold_10 rfl rfl ?_
    refine jw_iload_n (pc := 11) (j := 1) dX0_couplesTold_11 rfl rfl ?_
    refine jw_iload_n (pc := 12) (j := 3) dX0_couplesTold_12 rfl rfl ?_
    refine jw_ishr (pc := 13) dX0_couplesTold_13 ?_
    refine jw_iconst (pc := 14) (v := 1) dX0_couplesTold_14 rfl ?_
    refine jw_iand (pc := 15) dX0_couplesTold_15 ?_
    refine jw_iconst (pc := 16) (v := 1) dX0_couplesTold_16 rfl ?_
    refine jw_icmp_ne (pc := 17) (tgt := 29) dX0_couplesTold_17 (by decide) (fun c => ?_) (fun c => ?_)
    · replace h := h.1 c
      refine jw_iconst (pc := 29) (v := 0) dX0_couplesTold_29 rfl ?_
      refine jw_ior (pc := 30) dX0_couplesTold_30 ?_
      refine jw_istore_n (pc := 31) (ls' := [(2, .int (l2 ||| (0 : Int32))), (0, .ref (x.2.2.2 62)), (1, .int l1), (3, .int l3)]) dX0_couplesTold_31 rfl (by decide) rfl ?_
      refine jw_iinc (pc := 32) (j := 3) (u := l3 + 1) (ls' := [(3, .int (l3 + 1)), (2, .int (l2 ||| (0 : Int32))), (0, .ref (x.2.2.2 62)), (1, .int l1)]) dX0_couplesTold_32 rfl rfl (by decide) rfl ?_
      refine jw_goto (pc := 35) (tgt := 4) dX0_couplesTold_35 (by decide) ?_
      exact jw_sub [2, 3, 1, 0] rfl h
    · replace h := h.2 c
      refine jw_aload_n (pc := 20) (j := 0) dX0_couplesTold_20 rfl rfl ?_
      refine jw_getR (pc := 21) (r := 68) dX0_couplesTold_21 sC_62 fl_X0_27 (by decide) rfl rfl ?_
      refine jw_iload_n (pc := 24) (j := 3) dX0_couplesTold_24 rfl rfl ?_
      obtain ⟨j1, hj1, ej1, h⟩ := h
      refine jw_iald (pc := 25) (j := j1) dX0_couplesTold_25 sC_68 hj1 ej1 (by decide) ?_
      refine jw_goto (pc := 26) (tgt := 30) dX0_couplesTold_26 (by decide) ?_
      refine jw_ior (pc := 30) dX0_couplesTold_30 ?_
      refine jw_istore_n (pc := 31) (ls' := [(2, .int (l2 ||| (M.1 68 j1))), (0, .ref (x.2.2.2 62)), (1, .int l1), (3, .int l3)]) dX0_couplesTold_31 rfl (by decide) rfl ?_
      refine jw_iinc (pc := 32) (j := 3) (u := l3 + 1) (ls' := [(3, .int (l3 + 1)), (2, .int (l2 ||| (M.1 68 j1))), (0, .ref (x.2.2.2 62)), (1, .int l1)]) dX0_couplesTold_32 rfl rfl (by decide) rfl ?_
      refine jw_goto (pc := 35) (tgt := 4) dX0_couplesTold_35 (by decide) ?_
      exact jw_sub [2, 3, 1, 0] rfl h
set_option maxRecDepth 20000 in
theorem b_X0_cellsUnlike {x : jX} {d : Nat} {M : jM} {P : jM → Int32 → Prop}  
    (h : JW x jtbC mX0_cellsUnlike d (jI P) 4 [(0, .ref (x.2.2.2 62)), (1, .ref (x.2.2.2 30)), (2, .int (0 : Int32)), (3, .int (0 : Int32))] [] M) :
    JC x jtbC mX0_cellsUnlike d [.ref (x.2.2.2 62), .ref (x.2.2.2 30)] M (jI P) := by
  refine JC.of rfl (Nat.le_of_ble_eq_true rfl) ?_
  refine jw_ls (ls' := [(0, .ref (x.2.2.2 62)), (1, .ref (x.2.2.2 30))]) rfl ?_
  refine jw_iconst (pc := 0) (v := 0) dX0_cellsUnlike_0 rfl ?_
  refine jw_istore_n (pc := 1) (ls' := [(2, .int (0 : Int32)), (0, .ref (x.2.2.2 62)), (1, .ref (x.2.2.2 30))]) dX0_cellsUnlike_1 rfl (by decide) rfl ?_
  refine jw_iconst (pc := 2) (v := 0) dX0_cellsUnlike_2 rfl ?_
  refine jw_istore_n (pc := 3) (ls' := [(3, .int (0 : Int32)), (2, .int (0 : Int32)), (0, .ref (x.2.2.2 62)), (1, .ref (x.2.2.2 30))]) dX0_cellsUnlike_3 rfl (by decide) rfl ?_
  exact jw_sub [2, 3, 1, 0] rfl h
set_option maxRecDepth 20000 in
theorem b_X0_cellsUnlike_4 {x : jX} {d : Nat} {M : jM} {P : jM → Int32 → Prop} {l2 : Int32} {l3 : Int32} 
    (h : ((M.1 30 2) ≤ l3 → P M l2) ∧ (¬ (M.1 30 2) ≤ l3 → ∃ j1, j1 < 25 ∧ l3 = nI j1 ∧ (((M.1 63 j1) = (M.1 64 j1) → JW x jtbC mX0_cellsUnlike d (jI P) 4 [(0, .ref (x.2.2.2 62)), (1, .ref (x.2.2.2 30)), (2, .int (l2 + (0 : Int32))), (3, .int (l3 + 1))] [] M) ∧ (¬ (M.1 63 j1) = (M.1 64 j1) → JW x jtbC mX0_cellsUnlike d (jI P) 4 [(0, .ref (x.2.2.2 62)), (1, .ref (x.2.2.2 30)), (2, .int (l2 + (1 : Int32))), (3, .int (l3 + 1))] [] M)))) :
    JW x jtbC mX0_cellsUnlike d (jI P) 4 [(0, .ref (x.2.2.2 62)), (1, .ref (x.2.2.2 30)), (2, .int l2), (3, .int l3)] [] M := by
  refine jw_iload_n (pc := 4) (j := 3) dX0_cellsUnlike_4 rfl rfl ?_
  refine jw_aload_n (pc := 5) (j := 1) dX0_cellsUnlike_5 rfl rfl ?_
  refine jw_getI (pc := 6) dX0_cellsUnlike_6 sC_30 fl_X0_68 (by decide) rfl ?_
  refine jw_icmp_ge (pc := 9) (tgt := 41) dX0_cellsUnlike_9 (by decide) (fun c => ?_) (fun c => ?_)
  · replace h := h.1 c
    refine jw_iload_n (pc := 41) (j := 2) dX0_cellsUnlike_41 rfl rfl ?_
    exact jw_iret (pc := 42) dX0_cellsUnlike_42 rfl ⟨_, rfl, h⟩
  · replace h := h.2 c
    refine jw_iload_n (pc := 12) (j := 2) dX0_cellsUnlike_12 rfl rfl ?_
    refine jw_aload_n (pc := 13) (j := 0) dX0_cellsUnlike_13 rfl rfl ?_
    refine jw_getR (pc := 14) (r := 63) dX0_cellsUnlike_14 sC_62 fl_X0_9 (by decide) rfl rfl ?_
    refine jw_iload_n (pc := 17) (j := 3) dX0_cellsUnlike_17 rfl rfl ?_
    obtain ⟨j1, hj1, ej1, h⟩ := h
    refine jw_iald (pc := 18) (j := j1) dX0_cellsUnlike_18 sC_63 hj1 ej1 (by decide) ?_
    refine jw_aload_n (pc := 19) (j := 0) dX0_cellsUnlike_19 rfl rfl ?_
    refine jw_getR (pc := 20) (r := 64) dX0_cellsUnlike_20 sC_62 fl_X0_15 (by decide) rfl rfl ?_
    refine jw_iload_n (pc := 23) (j := 3) dX0_cellsUnlike_23 rfl rfl ?_
    refine jw_iald (pc := 24) (j := j1) dX0_cellsUnlike_24 sC_64 hj1 ej1 (by decide) ?_
    refine jw_icmp_eq (pc := 25) (tgt := 32) dX0_cellsUnlike_25 (by decide) (fun c => ?_) (fun c => ?_)
    · replace h := h.1 c
      refine jw_iconst (pc := 32) (v := 0) dX0_cellsUnlike_32 rfl ?_
      refine jw_iadd (pc := 33) dX0_cellsUnlike_33 ?_
      refine jw_istore_n (pc := 34) (ls' := [(2, .int (l2 + (0 : Int32))), (0, .ref (x.2.2.2 62)), (1, .ref (x.2.2.2 30)), (3, .int l3)]) dX0_cellsUnlike_34 rfl (by decide) rfl ?_
      refine jw_iinc (pc := 35) (j := 3) (u := l3 + 1) (ls' := [(3, .int (l3 + 1)), (2, .int (l2 + (0 : Int32))), (0, .ref (x.2.2.2 62)), (1, .ref (x.2.2.2 30))]) dX0_cellsUnlike_35 rfl rfl (by decide) rfl ?_
      refine jw_goto (pc := 38) (tgt := 4) dX0_cellsUnlike_38 (by decide) ?_
      exact jw_sub [2, 3, 1, 0] rfl h
    · replace h := h.2 c
      refine jw_iconst (pc := 28) (v := 1) dX0_cellsUnlike_28 rfl ?_
      refine jw_goto (pc := 29) (tgt := 33) dX0_cellsUnlike_29 (by decide) ?_
      refine jw_iadd (pc := 33) dX0_cellsUnlike_33 ?_
      refine jw_istore_n (pc := 34) (ls' := [(2, .int (l2 + (1 : Int32))), (0, .ref (x.2.2.2 62)), (1, .ref (x.2.2.2 30)), (3, .int l3)]) dX0_cellsUnlike_34 rfl (by decide) rfl ?_
      refine jw_iinc (pc := 35) (j := 3) (u := l3 + 1) (ls' := [(3, .int (l3 + 1)), (2, .int (l2 + (1 : Int32))), (0, .ref (x.2.2.2 62)), (1, .ref (x.2.2.2 30))]) dX0_cellsUnlike_35 rfl rfl (by decide) rfl ?_
      refine jw_goto (pc := 38) (tgt := 4) dX0_cellsUnlike_38 (by decide) ?_
      exact jw_sub [2, 3, 1, 0] rfl h
set_option maxRecDepth 20000 in
theorem b_X0_looksAlike {x : jX} {d : Nat} {M : jM} {P : jM → Bool → Prop}  
    (h : JW x jtbC mX0_looksAlike (d + 1) (jZ P) 2 [(0, .ref (x.2.2.2 62)), (1, .ref (x.2.2.2 30)), (2, .int (0 : Int32))] [] M) :
    JC x jtbC mX0_looksAlike (d + 1) [.ref (x.2.2.2 62), .ref (x.2.2.2 30)] M (jZ P) := by
  refine JC.of rfl (Nat.le_of_ble_eq_true rfl) ?_
  refine jw_ls (ls' := [(0, .ref (x.2.2.2 62)), (1, .ref (x.2.2.2 30))]) rfl ?_
  refine jw_iconst (pc := 0) (v := 0) dX0_looksAlike_0 rfl ?_
  refine jw_istore_n (pc := 1) (ls' := [(2, .int (0 : Int32)), (0, .ref (x.2.2.2 62)), (1, .ref (x.2.2.2 30))]) dX0_looksAlike_1 rfl (by decide) rfl ?_
  exact jw_sub [1, 2, 0] rfl h
set_option maxRecDepth 20000 in
theorem b_X0_looksAlike_2 {x : jX} {d : Nat} {M : jM} {P : jM → Bool → Prop} {l2 : Int32} 
    (h : ((M.1 30 3) ≤ l2 → P M true) ∧ (¬ (M.1 30 3) ≤ l2 → JC x jtbC mX0_firstStripApart d [.ref (x.2.2.2 62), .ref (x.2.2.2 30), .int l2] M (jI fun M1 r1 => (r1 = (-1 : Int32) → JW x jtbC mX0_looksAlike (d + 1) (jZ P) 2 [(0, .ref (x.2.2.2 62)), (1, .ref (x.2.2.2 30)), (2, .int (l2 + 1))] [] M1) ∧ (¬ r1 = (-1 : Int32) → P M1 false)))) :
    JW x jtbC mX0_looksAlike (d + 1) (jZ P) 2 [(0, .ref (x.2.2.2 62)), (1, .ref (x.2.2.2 30)), (2, .int l2)] [] M := by
  refine jw_iload_n (pc := 2) (j := 2) dX0_looksAlike_2 rfl rfl ?_
  refine jw_aload_n (pc := 3) (j := 1) dX0_looksAlike_3 rfl rfl ?_
  refine jw_getI (pc := 4) dX0_looksAlike_4 sC_30 fl_X0_50 (by decide) rfl ?_
  refine jw_icmp_ge (pc := 7) (tgt := 28) dX0_looksAlike_7 (by decide) (fun c => ?_) (fun c => ?_)
  · replace h := h.1 c
    refine jw_iconst (pc := 28) (v := 1) dX0_looksAlike_28 rfl ?_
    exact jw_zret (pc := 29) dX0_looksAlike_29 rfl (Or.inr rfl) ⟨true, rfl, h⟩
  · replace h := h.2 c
    refine jw_aload_n (pc := 10) (j := 0) dX0_looksAlike_10 rfl rfl ?_
    refine jw_aload_n (pc := 11) (j := 1) dX0_looksAlike_11 rfl rfl ?_
    refine jw_iload_n (pc := 12) (j := 2) dX0_looksAlike_12 rfl rfl ?_
    refine jw_callV (pc := 13) (m2 := mX0_firstStripApart) (As := [.ref (x.2.2.2 30), .int l2]) (st := []) dX0_looksAlike_13 sC_62 (by decide) rfl rfl gm_X0_firstStripApart ml_X0_77 rfl (Nat.le_of_ble_eq_true rfl) (JC.mono h ?_)
    clear h
    rintro M1 _ ⟨r1, rfl, h⟩
    refine jw_st (st' := [.int r1]) rfl ?_
    refine jw_iconst (pc := 16) (v := (-1)) dX0_looksAlike_16 rfl ?_
    refine jw_icmp_eq (pc := 17) (tgt := 22) dX0_looksAlike_17 (by decide) (fun c => ?_) (fun c => ?_)
    · replace h := h.1 c
      refine jw_iinc (pc := 22) (j := 2) (u := l2 + 1) (ls' := [(2, .int (l2 + 1)), (0, .ref (x.2.2.2 62)), (1, .ref (x.2.2.2 30))]) dX0_looksAlike_22 rfl rfl (by decide) rfl ?_
      refine jw_goto (pc := 25) (tgt := 2) dX0_looksAlike_25 (by decide) ?_
      exact jw_sub [1, 2, 0] rfl h
    · replace h := h.2 c
      refine jw_iconst (pc := 20) (v := 0) dX0_looksAlike_20 rfl ?_
      exact jw_zret (pc := 21) dX0_looksAlike_21 rfl (Or.inl rfl) ⟨false, rfl, h⟩
set_option maxRecDepth 20000 in
theorem b_X0_findOrder {x : jX} {d : Nat} {M : jM} {P : jM → Prop}  
    (h : JC x jtbC mX0_cellsUnlike d [.ref (x.2.2.2 62), .ref (x.2.2.2 30)] M (jI fun M1 r1 => JC x jtbC mJ9_min_7cf53 d [.int r1, .int (12 : Int32)] M1 (jI fun M2 r2 => ∃ c1, M2.1 30 2 = nI c1 ∧ 0 + c1 ≤ 25 ∧ 0 + c1 ≤ 25 ∧ (∀ M3, M3 = jrI M2 69 (va_cpy (M2.1 64) (M2.1 69) 0 0 c1) → ∃ c2, M3.1 30 2 = nI c2 ∧ 0 + c2 ≤ 25 ∧ 0 + c2 ≤ 25 ∧ (∀ M4, M4 = jrI M3 64 (va_cpy (M3.1 63) (M3.1 64) 0 0 c2) → ∀ M5, M5 = jrI M4 62 (upd (M4.1 62) 3 (0 : Int32)) → JW x jtbC mX0_findOrder (d + 1) (jV P) 52 [(0, .ref (x.2.2.2 62)), (1, .ref (x.2.2.2 30)), (2, .int r2), (3, .int (0 : Int32))] [] M5))))) :
    JC x jtbC mX0_findOrder (d + 1) [.ref (x.2.2.2 62), .ref (x.2.2.2 30)] M (jV P) := by
  refine JC.of rfl (Nat.le_of_ble_eq_true rfl) ?_
  refine jw_ls (ls' := [(0, .ref (x.2.2.2 62)), (1, .ref (x.2.2.2 30))]) rfl ?_
  refine jw_aload_n (pc := 0) (j := 0) dX0_findOrder_0 rfl rfl ?_
  refine jw_aload_n (pc := 1) (j := 1) dX0_findOrder_1 rfl rfl ?_
  refine jw_callV (pc := 2) (m2 := mX0_cellsUnlike) (As := [.ref (x.2.2.2 30)]) (st := []) dX0_findOrder_2 sC_62 (by decide) rfl rfl gm_X0_cellsUnlike ml_X0_81 rfl (Nat.le_of_ble_eq_true rfl) (JC.mono h ?_)
  clear h
  rintro M1 _ ⟨r1, rfl, h⟩
  refine jw_st (st' := [.int r1]) rfl ?_
  refine jw_bipush (pc := 5) (v := 12) dX0_findOrder_5 rfl ?_
  refine jw_callS (pc := 7) (m2 := mJ9_min_7cf53) (As := [.int r1, .int (12 : Int32)]) (st := []) dX0_findOrder_7 gm_J9_min_7cf53 ml_X0_85 rfl (Nat.le_of_ble_eq_true rfl) (JC.mono h ?_)
  clear h
  rintro M2 _ ⟨r2, rfl, h⟩
  refine jw_st (st' := [.int r2]) rfl ?_
  refine jw_istore_n (pc := 10) (ls' := [(2, .int r2), (0, .ref (x.2.2.2 62)), (1, .ref (x.2.2.2 30))]) dX0_findOrder_10 rfl (by decide) rfl ?_
  refine jw_aload_n (pc := 11) (j := 1) dX0_findOrder_11 rfl rfl ?_
  refine jw_getR (pc := 12) (r := 64) dX0_findOrder_12 sC_62 fl_X0_15 (by decide) rfl rfl ?_
  refine jw_iconst (pc := 15) (v := 0) dX0_findOrder_15 rfl ?_
  refine jw_aload_n (pc := 16) (j := 1) dX0_findOrder_16 rfl rfl ?_
  refine jw_getR (pc := 17) (r := 69) dX0_findOrder_17 sC_62 fl_X0_30 (by decide) rfl rfl ?_
  refine jw_iconst (pc := 20) (v := 0) dX0_findOrder_20 rfl ?_
  refine jw_aload_n (pc := 21) (j := 2) dX0_findOrder_21 rfl rfl ?_
  refine jw_getI (pc := 22) dX0_findOrder_22 sC_30 fl_X0_68 (by decide) rfl ?_
  obtain ⟨c1, ec1, q1, q2, h⟩ := h
  refine jw_copyI (pc := 25) (a := 0) (b := 0) (k := c1) (st := []) dX0_findOrder_25 ac_X0_91 ac_n ac_s ac_i sC_64 sC_69 rfl rfl ec1 q1 q2 (by decide) (by decide) (jcw (Nat.le_of_ble_eq_true rfl)) ?_
  replace h := h _ rfl
  generalize jrI M2 69 (va_cpy (M2.1 64) (M2.1 69) 0 0 c1) = M3 at h ⊢
  refine jw_aload_n (pc := 28) (j := 1) dX0_findOrder_28 rfl rfl ?_
  refine jw_getR (pc := 29) (r := 63) dX0_findOrder_29 sC_62 fl_X0_9 (by decide) rfl rfl ?_
  refine jw_iconst (pc := 32) (v := 0) dX0_findOrder_32 rfl ?_
  refine jw_aload_n (pc := 33) (j := 1) dX0_findOrder_33 rfl rfl ?_
  refine jw_getR (pc := 34) (r := 64) dX0_findOrder_34 sC_62 fl_X0_15 (by decide) rfl rfl ?_
  refine jw_iconst (pc := 37) (v := 0) dX0_findOrder_37 rfl ?_
  refine jw_aload_n (pc := 38) (j := 2) dX0_findOrder_38 rfl rfl ?_
  refine jw_getI (pc := 39) dX0_findOrder_39 sC_30 fl_X0_68 (by decide) rfl ?_
  obtain ⟨c2, ec2, q1, q2, h⟩ := h
  refine jw_copyI (pc := 42) (a := 0) (b := 0) (k := c2) (st := []) dX0_findOrder_42 ac_X0_91 ac_n ac_s ac_i sC_63 sC_64 rfl rfl ec2 q1 q2 (by decide) (by decide) (jcw (Nat.le_of_ble_eq_true rfl)) ?_
  replace h := h _ rfl
  generalize jrI M3 64 (va_cpy (M3.1 63) (M3.1 64) 0 0 c2) = M4 at h ⊢
  refine jw_aload_n (pc := 45) (j := 1) dX0_findOrder_45 rfl rfl ?_
  refine jw_iconst (pc := 46) (v := 0) dX0_findOrder_46 rfl ?_
  refine jw_putI (pc := 47) dX0_findOrder_47 sC_62 fl_X0_97 fw_0_3 (by decide) rfl ?_
  replace h := h _ rfl
  generalize jrI M4 62 (upd (M4.1 62) 3 (0 : Int32)) = M5 at h ⊢
  refine jw_iconst (pc := 50) (v := 0) dX0_findOrder_50 rfl ?_
  refine jw_istore_n (pc := 51) (ls' := [(3, .int (0 : Int32)), (2, .int r2), (0, .ref (x.2.2.2 62)), (1, .ref (x.2.2.2 30))]) dX0_findOrder_51 rfl (by decide) rfl ?_
  exact jw_sub [2, 3, 1, 0] rfl h
set_option maxRecDepth 20000 in
theorem b_X0_findOrder_52 {x : jX} {d : Nat} {M : jM} {P : jM → Prop} {l2 : Int32} {l3 : Int32} 
    (h : (l2 ≤ l3 → P M) ∧ (¬ l2 ≤ l3 → JC x jtbC mX0_changeFirst d [.ref (x.2.2.2 62), .ref (x.2.2.2 30)] M (jI fun M1 r1 => (¬ r1 = (-1 : Int32) → ∃ j1, j1 < 12 ∧ M1.1 62 3 = nI j1 ∧ (∀ M2, M2 = jrI M1 65 (upd (M1.1 65) j1 r1) → ∀ M3, M3 = jrI M2 62 (upd (M2.1 62) 3 ((M2.1 62 3) + (1 : Int32))) → JW x jtbC mX0_findOrder (d + 1) (jV P) 52 [(0, .ref (x.2.2.2 62)), (1, .ref (x.2.2.2 30)), (2, .int l2), (3, .int (l3 + 1))] [] M3)) ∧ (r1 = (-1 : Int32) → P M1)))) :
    JW x jtbC mX0_findOrder (d + 1) (jV P) 52 [(0, .ref (x.2.2.2 62)), (1, .ref (x.2.2.2 30)), (2, .int l2), (3, .int l3)] [] M := by
  refine jw_iload_n (pc := 52) (j := 3) dX0_findOrder_52 rfl rfl ?_
  refine jw_iload_n (pc := 53) (j := 2) dX0_findOrder_53 rfl rfl ?_
  refine jw_icmp_ge (pc := 54) (tgt := 98) dX0_findOrder_54 (by decide) (fun c => ?_) (fun c => ?_)
  · replace h := h.1 c
    exact jw_vret (pc := 98) dX0_findOrder_98 rfl ⟨rfl, h⟩
  · replace h := h.2 c
    refine jw_aload_n (pc := 57) (j := 0) dX0_findOrder_57 rfl rfl ?_
    refine jw_aload_n (pc := 58) (j := 1) dX0_findOrder_58 rfl rfl ?_
    refine jw_callV (pc := 59) (m2 := mX0_changeFirst) (As := [.ref (x.2.2.2 30)]) (st := []) dX0_findOrder_59 sC_62 (by decide) rfl rfl gm_X0_changeFirst ml_X0_100 rfl (Nat.le_of_ble_eq_true rfl) (JC.mono h ?_)
    clear h
    rintro M1 _ ⟨r1, rfl, h⟩
    refine jw_st (st' := [.int r1]) rfl ?_
    refine jw_istore (pc := 62) (ls' := [(4, .int r1), (0, .ref (x.2.2.2 62)), (1, .ref (x.2.2.2 30)), (2, .int l2), (3, .int l3)]) dX0_findOrder_62 (by decide) rfl ?_
    refine jw_iload (pc := 64) (j := 0) dX0_findOrder_64 rfl ?_
    refine jw_iconst (pc := 66) (v := (-1)) dX0_findOrder_66 rfl ?_
    refine jw_icmp_ne (pc := 67) (tgt := 71) dX0_findOrder_67 (by decide) (fun c => ?_) (fun c => ?_)
    · replace h := h.1 c
      refine jw_aload_n (pc := 71) (j := 1) dX0_findOrder_71 rfl rfl ?_
      refine jw_getR (pc := 72) (r := 65) dX0_findOrder_72 sC_62 fl_X0_18 (by decide) rfl rfl ?_
      refine jw_aload_n (pc := 75) (j := 1) dX0_findOrder_75 rfl rfl ?_
      refine jw_getI (pc := 76) dX0_findOrder_76 sC_62 fl_X0_97 (by decide) rfl ?_
      refine jw_iload (pc := 79) (j := 0) dX0_findOrder_79 rfl ?_
      obtain ⟨j1, hj1, ej1, h⟩ := h
      refine jw_iast (pc := 81) (j := j1) dX0_findOrder_81 sC_65 hj1 ej1 (by decide) ?_
      replace h := h _ rfl
      generalize jrI M1 65 (upd (M1.1 65) j1 r1) = M2 at h ⊢
      refine jw_aload_n (pc := 82) (j := 1) dX0_findOrder_82 rfl rfl ?_
      refine jw_dup (pc := 83) dX0_findOrder_83 rfl ?_
      refine jw_getI (pc := 84) dX0_findOrder_84 sC_62 fl_X0_97 (by decide) rfl ?_
      refine jw_iconst (pc := 87) (v := 1) dX0_findOrder_87 rfl ?_
      refine jw_iadd (pc := 88) dX0_findOrder_88 ?_
      refine jw_putI (pc := 89) dX0_findOrder_89 sC_62 fl_X0_97 fw_0_3 (by decide) rfl ?_
      replace h := h _ rfl
      generalize jrI M2 62 (upd (M2.1 62) 3 ((M2.1 62 3) + (1 : Int32))) = M3 at h ⊢
      refine jw_iinc (pc := 92) (j := 4) (u := l3 + 1) (ls' := [(3, .int (l3 + 1)), (4, .int r1), (0, .ref (x.2.2.2 62)), (1, .ref (x.2.2.2 30)), (2, .int l2)]) dX0_findOrder_92 rfl rfl (by decide) rfl ?_
      refine jw_goto (pc := 95) (tgt := 52) dX0_findOrder_95 (by decide) ?_
      exact jw_sub [2, 3, 4, 0] rfl h
    · replace h := h.2 c
      exact jw_vret (pc := 70) dX0_findOrder_70 rfl ⟨rfl, h⟩
set_option maxRecDepth 20000 in
theorem b_X0_changeFirst {x : jX} {d : Nat} {M : jM} {P : jM → Int32 → Prop}  
    (h : JW x jtbC mX0_changeFirst (d + 1) (jI P) 2 [(0, .ref (x.2.2.2 62)), (1, .ref (x.2.2.2 30)), (2, .int (0 : Int32))] [] M) :
    JC x jtbC mX0_changeFirst (d + 1) [.ref (x.2.2.2 62), .ref (x.2.2.2 30)] M (jI P) := by
  refine JC.of rfl (Nat.le_of_ble_eq_true rfl) ?_
  refine jw_ls (ls' := [(0, .ref (x.2.2.2 62)), (1, .ref (x.2.2.2 30))]) rfl ?_
  refine jw_iconst (pc := 0) (v := 0) dX0_changeFirst_0 rfl ?_
  refine jw_istore_n (pc := 1) (ls' := [(2, .int (0 : Int32)), (0, .ref (x.2.2.2 62)), (1, .ref (x.2.2.2 30))]) dX0_changeFirst_1 rfl (by decide) rfl ?_
  exact jw_sub [1, 2, 0] rfl h
set_option maxRecDepth 20000 in
theorem b_X0_changeFirst_2 {x : jX} {d : Nat} {M : jM} {P : jM → Int32 → Prop} {l2 : Int32} 
    (h : ((M.1 30 2) ≤ l2 → P M (-1 : Int32)) ∧ (¬ (M.1 30 2) ≤ l2 → ∃ j1, j1 < 25 ∧ l2 = nI j1 ∧ (((M.1 64 j1) = (M.1 69 j1) → JW x jtbC mX0_changeFirst (d + 1) (jI P) 2 [(0, .ref (x.2.2.2 62)), (1, .ref (x.2.2.2 30)), (2, .int (l2 + 1))] [] M) ∧ (¬ (M.1 64 j1) = (M.1 69 j1) → ∀ M1, M1 = jrI M 64 (upd (M.1 64) j1 (M.1 69 j1)) → JC x jtbC mX0_looksAlike d [.ref (x.2.2.2 62), .ref (x.2.2.2 30)] M1 (jZ fun M2 b1 => (b1 = false → ∀ M3, M3 = jrI M2 64 (upd (M2.1 64) j1 (M.1 64 j1)) → JW x jtbC mX0_changeFirst (d + 1) (jI P) 2 [(0, .ref (x.2.2.2 62)), (1, .ref (x.2.2.2 30)), (2, .int (l2 + 1))] [] M3) ∧ (b1 = true → P M2 l2)))))) :
    JW x jtbC mX0_changeFirst (d + 1) (jI P) 2 [(0, .ref (x.2.2.2 62)), (1, .ref (x.2.2.2 30)), (2, .int l2)] [] M := by
  refine jw_iload_n (pc := 2) (j := 2) dX0_changeFirst_2 rfl rfl ?_
  refine jw_aload_n (pc := 3) (j := 1) dX0_changeFirst_3 rfl rfl ?_
  refine jw_getI (pc := 4) dX0_changeFirst_4 sC_30 fl_X0_68 (by decide) rfl ?_
  refine jw_icmp_ge (pc := 7) (tgt := 62) dX0_changeFirst_7 (by decide) (fun c => ?_) (fun c => ?_)
  · replace h := h.1 c
    refine jw_iconst (pc := 62) (v := (-1)) dX0_changeFirst_62 rfl ?_
    exact jw_iret (pc := 63) dX0_changeFirst_63 rfl ⟨_, rfl, h⟩
  · replace h := h.2 c
    refine jw_aload_n (pc := 10) (j := 0) dX0_changeFirst_10 rfl rfl ?_
    refine jw_getR (pc := 11) (r := 64) dX0_changeFirst_11 sC_62 fl_X0_15 (by decide) rfl rfl ?_
    refine jw_iload_n (pc := 14) (j := 2) dX0_changeFirst_14 rfl rfl ?_
    obtain ⟨j1, hj1, ej1, h⟩ := h
    refine jw_iald (pc := 15) (j := j1) dX0_changeFirst_15 sC_64 hj1 ej1 (by decide) ?_
    refine jw_istore_n (pc := 16) (ls' := [(3, .int (M.1 64 j1)), (0, .ref (x.2.2.2 62)), (1, .ref (x.2.2.2 30)), (2, .int l2)]) dX0_changeFirst_16 rfl (by decide) rfl ?_
    refine jw_iload_n (pc := 17) (j := 0) dX0_changeFirst_17 rfl rfl ?_
    refine jw_aload_n (pc := 18) (j := 1) dX0_changeFirst_18 rfl rfl ?_
    refine jw_getR (pc := 19) (r := 69) dX0_changeFirst_19 sC_62 fl_X0_30 (by decide) rfl rfl ?_
    refine jw_iload_n (pc := 22) (j := 3) dX0_changeFirst_22 rfl rfl ?_
    refine jw_iald (pc := 23) (j := j1) dX0_changeFirst_23 sC_69 hj1 ej1 (by decide) ?_
    refine jw_icmp_eq (pc := 24) (tgt := 56) dX0_changeFirst_24 (by decide) (fun c => ?_) (fun c => ?_)
    · replace h := h.1 c
      refine jw_iinc (pc := 56) (j := 3) (u := l2 + 1) (ls' := [(2, .int (l2 + 1)), (3, .int (M.1 64 j1)), (0, .ref (x.2.2.2 62)), (1, .ref (x.2.2.2 30))]) dX0_changeFirst_56 rfl rfl (by decide) rfl ?_
      refine jw_goto (pc := 59) (tgt := 2) dX0_changeFirst_59 (by decide) ?_
      exact jw_sub [2, 3, 0] rfl h
    · replace h := h.2 c
      refine jw_aload_n (pc := 27) (j := 1) dX0_changeFirst_27 rfl rfl ?_
      refine jw_getR (pc := 28) (r := 64) dX0_changeFirst_28 sC_62 fl_X0_15 (by decide) rfl rfl ?_
      refine jw_iload_n (pc := 31) (j := 3) dX0_changeFirst_31 rfl rfl ?_
      refine jw_aload_n (pc := 32) (j := 1) dX0_changeFirst_32 rfl rfl ?_
      refine jw_getR (pc := 33) (r := 69) dX0_changeFirst_33 sC_62 fl_X0_30 (by decide) rfl rfl ?_
      refine jw_iload_n (pc := 36) (j := 3) dX0_changeFirst_36 rfl rfl ?_
      refine jw_iald (pc := 37) (j := j1) dX0_changeFirst_37 sC_69 hj1 ej1 (by decide) ?_
      refine jw_iast (pc := 38) (j := j1) dX0_changeFirst_38 sC_64 hj1 ej1 (by decide) ?_
      replace h := h _ rfl
      generalize jrI M 64 (upd (M.1 64) j1 (M.1 69 j1)) = M1 at h ⊢
      refine jw_aload_n (pc := 39) (j := 1) dX0_changeFirst_39 rfl rfl ?_
      refine jw_aload_n (pc := 40) (j := 2) dX0_changeFirst_40 rfl rfl ?_
      refine jw_callV (pc := 41) (m2 := mX0_looksAlike) (As := [.ref (x.2.2.2 30)]) (st := []) dX0_changeFirst_41 sC_62 (by decide) rfl rfl gm_X0_looksAlike ml_X0_103 rfl (Nat.le_of_ble_eq_true rfl) (JC.mono h ?_)
      clear h
      rintro M2 _ ⟨b1, rfl, h⟩
      refine jw_st (st' := [.int (jb b1)]) rfl ?_
      refine jw_if_eq (pc := 44) (tgt := 49) dX0_changeFirst_44 (by decide) (fun c => ?_) (fun c => ?_)
      · replace h := h.1 ((jb_0 _).mp c)
        refine jw_aload_n (pc := 49) (j := 1) dX0_changeFirst_49 rfl rfl ?_
        refine jw_getR (pc := 50) (r := 64) dX0_changeFirst_50 sC_62 fl_X0_15 (by decide) rfl rfl ?_
        refine jw_iload_n (pc := 53) (j := 3) dX0_changeFirst_53 rfl rfl ?_
        refine jw_iload_n (pc := 54) (j := 0) dX0_changeFirst_54 rfl rfl ?_
        refine jw_iast (pc := 55) (j := j1) dX0_changeFirst_55 sC_64 hj1 ej1 (by decide) ?_
        replace h := h _ rfl
        generalize jrI M2 64 (upd (M2.1 64) j1 (M.1 64 j1)) = M3 at h ⊢
        refine jw_iinc (pc := 56) (j := 3) (u := l2 + 1) (ls' := [(2, .int (l2 + 1)), (3, .int (M.1 64 j1)), (0, .ref (x.2.2.2 62)), (1, .ref (x.2.2.2 30))]) dX0_changeFirst_56 rfl rfl (by decide) rfl ?_
        refine jw_goto (pc := 59) (tgt := 2) dX0_changeFirst_59 (by decide) ?_
        exact jw_sub [2, 3, 0] rfl h
      · replace h := h.2 (jb_ne c)
        refine jw_iload_n (pc := 47) (j := 3) dX0_changeFirst_47 rfl rfl ?_
        exact jw_iret (pc := 48) dX0_changeFirst_48 rfl ⟨_, rfl, h⟩
