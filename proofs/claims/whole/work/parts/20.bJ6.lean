set_option maxRecDepth 20000 in
theorem b_J6_numberOfLeadingZeros_0f7a4 {x : jX} {tb : jT} {d : Nat} {M : jM} {P : jM → Int32 → Prop} {a0 : Int32} 
    (h : (0 < a0 → (a0 < (65536 : Int32) → JW x tb mJ6_numberOfLeadingZeros_0f7a4 d (jI P) 33 [(0, .int a0), (1, .int (31 : Int32))] [] M) ∧ (¬ a0 < (65536 : Int32) → JW x tb mJ6_numberOfLeadingZeros_0f7a4 d (jI P) 33 [(0, .int ((a0.toUInt32 >>> ((16 : Int32).toUInt32 &&& Int32.toUInt32 31)).toInt32)), (1, .int ((31 : Int32) + (-16)))] [] M)) ∧ (¬ 0 < a0 → (¬ a0 = 0 → P M (0 : Int32)) ∧ (a0 = 0 → P M (32 : Int32)))) :
    JC x tb mJ6_numberOfLeadingZeros_0f7a4 d [.int a0] M (jI P) := by
  refine JC.of rfl (Nat.le_of_ble_eq_true rfl) ?_
  refine jw_ls (ls' := [(0, .int a0)]) rfl ?_
  refine jw_iload_n (pc := 0) (j := 0) dJ6_numberOfLeadingZeros_0f7a4_0 rfl rfl ?_
  refine jw_if_gt (pc := 1) (tgt := 15) dJ6_numberOfLeadingZeros_0f7a4_1 (by decide) (fun c => ?_) (fun c => ?_)
  · replace h := h.1 c
    refine jw_bipush (pc := 15) (v := 31) dJ6_numberOfLeadingZeros_0f7a4_15 rfl ?_
    refine jw_istore_n (pc := 17) (ls' := [(1, .int (31 : Int32)), (0, .int a0)]) dJ6_numberOfLeadingZeros_0f7a4_17 rfl (by decide) rfl ?_
    refine jw_iload_n (pc := 18) (j := 1) dJ6_numberOfLeadingZeros_0f7a4_18 rfl rfl ?_
    refine jw_ldcw (pc := 19) (v := 65536) dJ6_numberOfLeadingZeros_0f7a4_19 kc_J6_264 ?_
    refine jw_icmp_lt (pc := 22) (tgt := 33) dJ6_numberOfLeadingZeros_0f7a4_22 (by decide) (fun c => ?_) (fun c => ?_)
    · replace h := h.1 c
      exact jw_sub [1, 0] rfl h
    · replace h := h.2 c
      refine jw_iinc (pc := 25) (j := 0) (u := (31 : Int32) + (-16)) (ls' := [(1, .int ((31 : Int32) + (-16))), (0, .int a0)]) dJ6_numberOfLeadingZeros_0f7a4_25 rfl rfl (by decide) rfl ?_
      refine jw_iload_n (pc := 28) (j := 1) dJ6_numberOfLeadingZeros_0f7a4_28 rfl rfl ?_
      refine jw_bipush (pc := 29) (v := 16) dJ6_numberOfLeadingZeros_0f7a4_29 rfl ?_
      refine jw_iushr (pc := 31) dJ6_numberOfLeadingZeros_0f7a4_31 ?_
      refine jw_istore_n (pc := 32) (ls' := [(0, .int ((a0.toUInt32 >>> ((16 : Int32).toUInt32 &&& Int32.toUInt32 31)).toInt32)), (1, .int ((31 : Int32) + (-16)))]) dJ6_numberOfLeadingZeros_0f7a4_32 rfl (by decide) rfl ?_
      exact jw_sub [0, 1] rfl h
  · replace h := h.2 c
    refine jw_iload_n (pc := 4) (j := 0) dJ6_numberOfLeadingZeros_0f7a4_4 rfl rfl ?_
    refine jw_if_ne (pc := 5) (tgt := 13) dJ6_numberOfLeadingZeros_0f7a4_5 (by decide) (fun c => ?_) (fun c => ?_)
    · replace h := h.1 c
      refine jw_iconst (pc := 13) (v := 0) dJ6_numberOfLeadingZeros_0f7a4_13 rfl ?_
      exact jw_iret (pc := 14) dJ6_numberOfLeadingZeros_0f7a4_14 rfl ⟨_, rfl, h⟩
    · replace h := h.2 c
      refine jw_bipush (pc := 8) (v := 32) dJ6_numberOfLeadingZeros_0f7a4_8 rfl ?_
      refine jw_goto (pc := 10) (tgt := 14) dJ6_numberOfLeadingZeros_0f7a4_10 (by decide) ?_
      exact jw_iret (pc := 14) dJ6_numberOfLeadingZeros_0f7a4_14 rfl ⟨_, rfl, h⟩
set_option maxRecDepth 20000 in
theorem b_J6_numberOfLeadingZeros_0f7a4_33 {x : jX} {tb : jT} {d : Nat} {M : jM} {P : jM → Int32 → Prop} {l0 : Int32} {l1 : Int32} 
    (h : (l0 < (256 : Int32) → (l0 < (16 : Int32) → JW x tb mJ6_numberOfLeadingZeros_0f7a4 d (jI P) 61 [(0, .int l0), (1, .int l1)] [] M) ∧ (¬ l0 < (16 : Int32) → JW x tb mJ6_numberOfLeadingZeros_0f7a4 d (jI P) 61 [(0, .int ((l0.toUInt32 >>> ((4 : Int32).toUInt32 &&& Int32.toUInt32 31)).toInt32)), (1, .int (l1 + (-4)))] [] M)) ∧ (¬ l0 < (256 : Int32) → (((l0.toUInt32 >>> ((8 : Int32).toUInt32 &&& Int32.toUInt32 31)).toInt32) < (16 : Int32) → JW x tb mJ6_numberOfLeadingZeros_0f7a4 d (jI P) 61 [(0, .int ((l0.toUInt32 >>> ((8 : Int32).toUInt32 &&& Int32.toUInt32 31)).toInt32)), (1, .int (l1 + (-8)))] [] M) ∧ (¬ ((l0.toUInt32 >>> ((8 : Int32).toUInt32 &&& Int32.toUInt32 31)).toInt32) < (16 : Int32) → JW x tb mJ6_numberOfLeadingZeros_0f7a4 d (jI P) 61 [(0, .int ((((l0.toUInt32 >>> ((8 : Int32).toUInt32 &&& Int32.toUInt32 31)).toInt32).toUInt32 >>> ((4 : Int32).toUInt32 &&& Int32.toUInt32 31)).toInt32)), (1, .int ((l1 + (-8)) + (-4)))] [] M))) :
    JW x tb mJ6_numberOfLeadingZeros_0f7a4 d (jI P) 33 [(0, .int l0), (1, .int l1)] [] M := by
  refine jw_iload_n (pc := 33) (j := 0) dJ6_numberOfLeadingZeros_0f7a4_33 rfl rfl ?_
  refine jw_sipush (pc := 34) (v := 256) dJ6_numberOfLeadingZeros_0f7a4_34 rfl ?_
  refine jw_icmp_lt (pc := 37) (tgt := 48) dJ6_numberOfLeadingZeros_0f7a4_37 (by decide) (fun c => ?_) (fun c => ?_)
  · replace h := h.1 c
    refine jw_iload_n (pc := 48) (j := 0) dJ6_numberOfLeadingZeros_0f7a4_48 rfl rfl ?_
    refine jw_bipush (pc := 49) (v := 16) dJ6_numberOfLeadingZeros_0f7a4_49 rfl ?_
    refine jw_icmp_lt (pc := 51) (tgt := 61) dJ6_numberOfLeadingZeros_0f7a4_51 (by decide) (fun c => ?_) (fun c => ?_)
    · replace h := h.1 c
      exact jw_sub [0, 1] rfl h
    · replace h := h.2 c
      refine jw_iinc (pc := 54) (j := 1) (u := l1 + (-4)) (ls' := [(1, .int (l1 + (-4))), (0, .int l0)]) dJ6_numberOfLeadingZeros_0f7a4_54 rfl rfl (by decide) rfl ?_
      refine jw_iload_n (pc := 57) (j := 1) dJ6_numberOfLeadingZeros_0f7a4_57 rfl rfl ?_
      refine jw_iconst (pc := 58) (v := 4) dJ6_numberOfLeadingZeros_0f7a4_58 rfl ?_
      refine jw_iushr (pc := 59) dJ6_numberOfLeadingZeros_0f7a4_59 ?_
      refine jw_istore_n (pc := 60) (ls' := [(0, .int ((l0.toUInt32 >>> ((4 : Int32).toUInt32 &&& Int32.toUInt32 31)).toInt32)), (1, .int (l1 + (-4)))]) dJ6_numberOfLeadingZeros_0f7a4_60 rfl (by decide) rfl ?_
      exact jw_sub [0, 1] rfl h
  · replace h := h.2 c
    refine jw_iinc (pc := 40) (j := 1) (u := l1 + (-8)) (ls' := [(1, .int (l1 + (-8))), (0, .int l0)]) dJ6_numberOfLeadingZeros_0f7a4_40 rfl rfl (by decide) rfl ?_
    refine jw_iload_n (pc := 43) (j := 1) dJ6_numberOfLeadingZeros_0f7a4_43 rfl rfl ?_
    refine jw_bipush (pc := 44) (v := 8) dJ6_numberOfLeadingZeros_0f7a4_44 rfl ?_
    refine jw_iushr (pc := 46) dJ6_numberOfLeadingZeros_0f7a4_46 ?_
    refine jw_istore_n (pc := 47) (ls' := [(0, .int ((l0.toUInt32 >>> ((8 : Int32).toUInt32 &&& Int32.toUInt32 31)).toInt32)), (1, .int (l1 + (-8)))]) dJ6_numberOfLeadingZeros_0f7a4_47 rfl (by decide) rfl ?_
    refine jw_iload_n (pc := 48) (j := 0) dJ6_numberOfLeadingZeros_0f7a4_48 rfl rfl ?_
    refine jw_bipush (pc := 49) (v := 16) dJ6_numberOfLeadingZeros_0f7a4_49 rfl ?_
    refine jw_icmp_lt (pc := 51) (tgt := 61) dJ6_numberOfLeadingZeros_0f7a4_51 (by decide) (fun c => ?_) (fun c => ?_)
    · replace h := h.1 c
      exact jw_sub [0, 1] rfl h
    · replace h := h.2 c
      refine jw_iinc (pc := 54) (j := 1) (u := (l1 + (-8)) + (-4)) (ls' := [(1, .int ((l1 + (-8)) + (-4))), (0, .int ((l0.toUInt32 >>> ((8 : Int32).toUInt32 &&& Int32.toUInt32 31)).toInt32))]) dJ6_numberOfLeadingZeros_0f7a4_54 rfl rfl (by decide) rfl ?_
      refine jw_iload_n (pc := 57) (j := 1) dJ6_numberOfLeadingZeros_0f7a4_57 rfl rfl ?_
      refine jw_iconst (pc := 58) (v := 4) dJ6_numberOfLeadingZeros_0f7a4_58 rfl ?_
      refine jw_iushr (pc := 59) dJ6_numberOfLeadingZeros_0f7a4_59 ?_
      refine jw_istore_n (pc := 60) (ls' := [(0, .int ((((l0.toUInt32 >>> ((8 : Int32).toUInt32 &&& Int32.toUInt32 31)).toInt32).toUInt32 >>> ((4 : Int32).toUInt32 &&& Int32.toUInt32 31)).toInt32)), (1, .int ((l1 + (-8)) + (-4)))]) dJ6_numberOfLeadingZeros_0f7a4_60 rfl (by decide) rfl ?_
      exact jw_sub [0, 1] rfl h
set_option maxRecDepth 20000 in
theorem b_J6_numberOfLeadingZeros_0f7a4_61 {x : jX} {tb : jT} {d : Nat} {M : jM} {P : jM → Int32 → Prop} {l0 : Int32} {l1 : Int32} 
    (h : (l0 < (4 : Int32) → P M (l1 - ((l0.toUInt32 >>> ((1 : Int32).toUInt32 &&& Int32.toUInt32 31)).toInt32))) ∧ (¬ l0 < (4 : Int32) → P M ((l1 + (-2)) - ((((l0.toUInt32 >>> ((2 : Int32).toUInt32 &&& Int32.toUInt32 31)).toInt32).toUInt32 >>> ((1 : Int32).toUInt32 &&& Int32.toUInt32 31)).toInt32)))) :
    JW x tb mJ6_numberOfLeadingZeros_0f7a4 d (jI P) 61 [(0, .int l0), (1, .int l1)] [] M := by
  refine jw_iload_n (pc := 61) (j := 0) dJ6_numberOfLeadingZeros_0f7a4_61 rfl rfl ?_
  refine jw_iconst (pc := 62) (v := 4) dJ6_numberOfLeadingZeros_0f7a4_62 rfl ?_
  refine jw_icmp_lt (pc := 63) (tgt := 73) dJ6_numberOfLeadingZeros_0f7a4_63 (by decide) (fun c => ?_) (fun c => ?_)
  · replace h := h.1 c
    refine jw_iload_n (pc := 73) (j := 1) dJ6_numberOfLeadingZeros_0f7a4_73 rfl rfl ?_
    refine jw_iload_n (pc := 74) (j := 0) dJ6_numberOfLeadingZeros_0f7a4_74 rfl rfl ?_
    refine jw_iconst (pc := 75) (v := 1) dJ6_numberOfLeadingZeros_0f7a4_75 rfl ?_
    refine jw_iushr (pc := 76) dJ6_numberOfLeadingZeros_0f7a4_76 ?_
    refine jw_isub (pc := 77) dJ6_numberOfLeadingZeros_0f7a4_77 ?_
    exact jw_iret (pc := 78) dJ6_numberOfLeadingZeros_0f7a4_78 rfl ⟨_, rfl, h⟩
  · replace h := h.2 c
    refine jw_iinc (pc := 66) (j := 1) (u := l1 + (-2)) (ls' := [(1, .int (l1 + (-2))), (0, .int l0)]) dJ6_numberOfLeadingZeros_0f7a4_66 rfl rfl (by decide) rfl ?_
    refine jw_iload_n (pc := 69) (j := 1) dJ6_numberOfLeadingZeros_0f7a4_69 rfl rfl ?_
    refine jw_iconst (pc := 70) (v := 2) dJ6_numberOfLeadingZeros_0f7a4_70 rfl ?_
    refine jw_iushr (pc := 71) dJ6_numberOfLeadingZeros_0f7a4_71 ?_
    refine jw_istore_n (pc := 72) (ls' := [(0, .int ((l0.toUInt32 >>> ((2 : Int32).toUInt32 &&& Int32.toUInt32 31)).toInt32)), (1, .int (l1 + (-2)))]) dJ6_numberOfLeadingZeros_0f7a4_72 rfl (by decide) rfl ?_
    refine jw_iload_n (pc := 73) (j := 1) dJ6_numberOfLeadingZeros_0f7a4_73 rfl rfl ?_
    refine jw_iload_n (pc := 74) (j := 0) dJ6_numberOfLeadingZeros_0f7a4_74 rfl rfl ?_
    refine jw_iconst (pc := 75) (v := 1) dJ6_numberOfLeadingZeros_0f7a4_75 rfl ?_
    refine jw_iushr (pc := 76) dJ6_numberOfLeadingZeros_0f7a4_76 ?_
    refine jw_isub (pc := 77) dJ6_numberOfLeadingZeros_0f7a4_77 ?_
    exact jw_iret (pc := 78) dJ6_numberOfLeadingZeros_0f7a4_78 rfl ⟨_, rfl, h⟩
set_option maxRecDepth 20000 in
theorem b_J6_numberOfTrailingZeros_0f7a4 {x : jX} {tb : jT} {d : Nat} {M : jM} {P : jM → Int32 → Prop} {a0 : Int32} 
    (h : (0 < ((a0 ^^^ (-1 : Int32)) &&& (a0 - (1 : Int32))) → (((a0 ^^^ (-1 : Int32)) &&& (a0 - (1 : Int32))) ≤ (65536 : Int32) → JW x tb mJ6_numberOfTrailingZeros_0f7a4 d (jI P) 34 [(0, .int ((a0 ^^^ (-1 : Int32)) &&& (a0 - (1 : Int32)))), (1, .int (1 : Int32))] [] M) ∧ (¬ ((a0 ^^^ (-1 : Int32)) &&& (a0 - (1 : Int32))) ≤ (65536 : Int32) → JW x tb mJ6_numberOfTrailingZeros_0f7a4 d (jI P) 34 [(0, .int ((((a0 ^^^ (-1 : Int32)) &&& (a0 - (1 : Int32))).toUInt32 >>> ((16 : Int32).toUInt32 &&& Int32.toUInt32 31)).toInt32)), (1, .int ((1 : Int32) + 16))] [] M)) ∧ (¬ 0 < ((a0 ^^^ (-1 : Int32)) &&& (a0 - (1 : Int32))) → P M (((a0 ^^^ (-1 : Int32)) &&& (a0 - (1 : Int32))) &&& (32 : Int32)))) :
    JC x tb mJ6_numberOfTrailingZeros_0f7a4 d [.int a0] M (jI P) := by
  refine JC.of rfl (Nat.le_of_ble_eq_true rfl) ?_
  refine jw_ls (ls' := [(0, .int a0)]) rfl ?_
  refine jw_iload_n (pc := 0) (j := 0) dJ6_numberOfTrailingZeros_0f7a4_0 rfl rfl ?_
  refine jw_iconst (pc := 1) (v := (-1)) dJ6_numberOfTrailingZeros_0f7a4_1 rfl ?_
  refine jw_ixor (pc := 2) dJ6_numberOfTrailingZeros_0f7a4_2 ?_
  refine jw_iload_n (pc := 3) (j := 0) dJ6_numberOfTrailingZeros_0f7a4_3 rfl rfl ?_
  refine jw_iconst (pc := 4) (v := 1) dJ6_numberOfTrailingZeros_0f7a4_4 rfl ?_
  refine jw_isub (pc := 5) dJ6_numberOfTrailingZeros_0f7a4_5 ?_
  refine jw_iand (pc := 6) dJ6_numberOfTrailingZeros_0f7a4_6 ?_
  refine jw_istore_n (pc := 7) (ls' := [(0, .int ((a0 ^^^ (-1 : Int32)) &&& (a0 - (1 : Int32))))]) dJ6_numberOfTrailingZeros_0f7a4_7 rfl (by decide) rfl ?_
  refine jw_iload_n (pc := 8) (j := 0) dJ6_numberOfTrailingZeros_0f7a4_8 rfl rfl ?_
  refine jw_if_gt (pc := 9) (tgt := 17) dJ6_numberOfTrailingZeros_0f7a4_9 (by decide) (fun c => ?_) (fun c => ?_)
  · replace h := h.1 c
    refine jw_iconst (pc := 17) (v := 1) dJ6_numberOfTrailingZeros_0f7a4_17 rfl ?_
    refine jw_istore_n (pc := 18) (ls' := [(1, .int (1 : Int32)), (0, .int ((a0 ^^^ (-1 : Int32)) &&& (a0 - (1 : Int32))))]) dJ6_numberOfTrailingZeros_0f7a4_18 rfl (by decide) rfl ?_
    refine jw_iload_n (pc := 19) (j := 1) dJ6_numberOfTrailingZeros_0f7a4_19 rfl rfl ?_
    refine jw_ldcw (pc := 20) (v := 65536) dJ6_numberOfTrailingZeros_0f7a4_20 kc_J6_264 ?_
    refine jw_icmp_le (pc := 23) (tgt := 34) dJ6_numberOfTrailingZeros_0f7a4_23 (by decide) (fun c => ?_) (fun c => ?_)
    · replace h := h.1 c
      exact jw_sub [1, 0] rfl h
    · replace h := h.2 c
      refine jw_iinc (pc := 26) (j := 0) (u := (1 : Int32) + 16) (ls' := [(1, .int ((1 : Int32) + 16)), (0, .int ((a0 ^^^ (-1 : Int32)) &&& (a0 - (1 : Int32))))]) dJ6_numberOfTrailingZeros_0f7a4_26 rfl rfl (by decide) rfl ?_
      refine jw_iload_n (pc := 29) (j := 1) dJ6_numberOfTrailingZeros_0f7a4_29 rfl rfl ?_
      refine jw_bipush (pc := 30) (v := 16) dJ6_numberOfTrailingZeros_0f7a4_30 rfl ?_
      refine jw_iushr (pc := 32) dJ6_numberOfTrailingZeros_0f7a4_32 ?_
      refine jw_istore_n (pc := 33) (ls' := [(0, .int ((((a0 ^^^ (-1 : Int32)) &&& (a0 - (1 : Int32))).toUInt32 >>> ((16 : Int32).toUInt32 &&& Int32.toUInt32 31)).toInt32)), (1, .int ((1 : Int32) + 16))]) dJ6_numberOfTrailingZeros_0f7a4_33 rfl (by decide) rfl ?_
      exact jw_sub [0, 1] rfl h
  · replace h := h.2 c
    refine jw_iload_n (pc := 12) (j := 0) dJ6_numberOfTrailingZeros_0f7a4_12 rfl rfl ?_
    refine jw_bipush (pc := 13) (v := 32) dJ6_numberOfTrailingZeros_0f7a4_13 rfl ?_
    refine jw_iand (pc := 15) dJ6_numberOfTrailingZeros_0f7a4_15 ?_
    exact jw_iret (pc := 16) dJ6_numberOfTrailingZeros_0f7a4_16 rfl ⟨_, rfl, h⟩
set_option maxRecDepth 20000 in
theorem b_J6_numberOfTrailingZeros_0f7a4_34 {x : jX} {tb : jT} {d : Nat} {M : jM} {P : jM → Int32 → Prop} {l0 : Int32} {l1 : Int32} 
    (h : (l0 ≤ (256 : Int32) → (l0 ≤ (16 : Int32) → JW x tb mJ6_numberOfTrailingZeros_0f7a4 d (jI P) 62 [(0, .int l0), (1, .int l1)] [] M) ∧ (¬ l0 ≤ (16 : Int32) → JW x tb mJ6_numberOfTrailingZeros_0f7a4 d (jI P) 62 [(0, .int ((l0.toUInt32 >>> ((4 : Int32).toUInt32 &&& Int32.toUInt32 31)).toInt32)), (1, .int (l1 + 4))] [] M)) ∧ (¬ l0 ≤ (256 : Int32) → (((l0.toUInt32 >>> ((8 : Int32).toUInt32 &&& Int32.toUInt32 31)).toInt32) ≤ (16 : Int32) → JW x tb mJ6_numberOfTrailingZeros_0f7a4 d (jI P) 62 [(0, .int ((l0.toUInt32 >>> ((8 : Int32).toUInt32 &&& Int32.toUInt32 31)).toInt32)), (1, .int (l1 + 8))] [] M) ∧ (¬ ((l0.toUInt32 >>> ((8 : Int32).toUInt32 &&& Int32.toUInt32 31)).toInt32) ≤ (16 : Int32) → JW x tb mJ6_numberOfTrailingZeros_0f7a4 d (jI P) 62 [(0, .int ((((l0.toUInt32 >>> ((8 : Int32).toUInt32 &&& Int32.toUInt32 31)).toInt32).toUInt32 >>> ((4 : Int32).toUInt32 &&& Int32.toUInt32 31)).toInt32)), (1, .int ((l1 + 8) + 4))] [] M))) :
    JW x tb mJ6_numberOfTrailingZeros_0f7a4 d (jI P) 34 [(0, .int l0), (1, .int l1)] [] M := by
  refine jw_iload_n (pc := 34) (j := 0) dJ6_numberOfTrailingZeros_0f7a4_34 rfl rfl ?_
  refine jw_sipush (pc := 35) (v := 256) dJ6_numberOfTrailingZeros_0f7a4_35 rfl ?_
  refine jw_icmp_le (pc := 38) (tgt := 49) dJ6_numberOfTrailingZeros_0f7a4_38 (by decide) (fun c => ?_) (fun c => ?_)
  · replace h := h.1 c
    refine jw_iload_n (pc := 49) (j := 0) dJ6_numberOfTrailingZeros_0f7a4_49 rfl rfl ?_
    refine jw_bipush (pc := 50) (v := 16) dJ6_numberOfTrailingZeros_0f7a4_50 rfl ?_
    refine jw_icmp_le (pc := 52) (tgt := 62) dJ6_numberOfTrailingZeros_0f7a4_52 (by decide) (fun c => ?_) (fun c => ?_)
    · replace h := h.1 c
      exact jw_sub [0, 1] rfl h
    · replace h := h.2 c
      refine jw_iinc (pc := 55) (j := 1) (u := l1 + 4) (ls' := [(1, .int (l1 + 4)), (0, .int l0)]) dJ6_numberOfTrailingZeros_0f7a4_55 rfl rfl (by decide) rfl ?_
      refine jw_iload_n (pc := 58) (j := 1) dJ6_numberOfTrailingZeros_0f7a4_58 rfl rfl ?_
      refine jw_iconst (pc := 59) (v := 4) dJ6_numberOfTrailingZeros_0f7a4_59 rfl ?_
      refine jw_iushr (pc := 60) dJ6_numberOfTrailingZeros_0f7a4_60 ?_
      refine jw_istore_n (pc := 61) (ls' := [(0, .int ((l0.toUInt32 >>> ((4 : Int32).toUInt32 &&& Int32.toUInt32 31)).toInt32)), (1, .int (l1 + 4))]) dJ6_numberOfTrailingZeros_0f7a4_61 rfl (by decide) rfl ?_
      exact jw_sub [0, 1] rfl h
  · replace h := h.2 c
    refine jw_iinc (pc := 41) (j := 1) (u := l1 + 8) (ls' := [(1, .int (l1 + 8)), (0, .int l0)]) dJ6_numberOfTrailingZeros_0f7a4_41 rfl rfl (by decide) rfl ?_
    refine jw_iload_n (pc := 44) (j := 1) dJ6_numberOfTrailingZeros_0f7a4_44 rfl rfl ?_
    refine jw_bipush (pc := 45) (v := 8) dJ6_numberOfTrailingZeros_0f7a4_45 rfl ?_
    refine jw_iushr (pc := 47) dJ6_numberOfTrailingZeros_0f7a4_47 ?_
    refine jw_istore_n (pc := 48) (ls' := [(0, .int ((l0.toUInt32 >>> ((8 : Int32).toUInt32 &&& Int32.toUInt32 31)).toInt32)), (1, .int (l1 + 8))]) dJ6_numberOfTrailingZeros_0f7a4_48 rfl (by decide) rfl ?_
    refine jw_iload_n (pc := 49) (j := 0) dJ6_numberOfTrailingZeros_0f7a4_49 rfl rfl ?_
    refine jw_bipush (pc := 50) (v := 16) dJ6_numberOfTrailingZeros_0f7a4_50 rfl ?_
    refine jw_icmp_le (pc := 52) (tgt := 62) dJ6_numberOfTrailingZeros_0f7a4_52 (by decide) (fun c => ?_) (fun c => ?_)
    · replace h := h.1 c
      exact jw_sub [0, 1] rfl h
    · replace h := h.2 c
      refine jw_iinc (pc := 55) (j := 1) (u := (l1 + 8) + 4) (ls' := [(1, .int ((l1 + 8) + 4)), (0, .int ((l0.toUInt32 >>> ((8 : Int32).toUInt32 &&& Int32.toUInt32 31)).toInt32))]) dJ6_numberOfTrailingZeros_0f7a4_55 rfl rfl (by decide) rfl ?_
      refine jw_iload_n (pc := 58) (j := 1) dJ6_numberOfTrailingZeros_0f7a4_58 rfl rfl ?_
      refine jw_iconst (pc := 59) (v := 4) dJ6_numberOfTrailingZeros_0f7a4_59 rfl ?_
      refine jw_iushr (pc := 60) dJ6_numberOfTrailingZeros_0f7a4_60 ?_
      refine jw_istore_n (pc := 61) (ls' := [(0, .int ((((l0.toUInt32 >>> ((8 : Int32).toUInt32 &&& Int32.toUInt32 31)).toInt32).toUInt32 >>> ((4 : Int32).toUInt32 &&& Int32.toUInt32 31)).toInt32)), (1, .int ((l1 + 8) + 4))]) dJ6_numberOfTrailingZeros_0f7a4_61 rfl (by decide) rfl ?_
      exact jw_sub [0, 1] rfl h
set_option maxRecDepth 20000 in
theorem b_J6_numberOfTrailingZeros_0f7a4_62 {x : jX} {tb : jT} {d : Nat} {M : jM} {P : jM → Int32 → Prop} {l0 : Int32} {l1 : Int32} 
    (h : (l0 ≤ (4 : Int32) → P M (l1 + ((l0.toUInt32 >>> ((1 : Int32).toUInt32 &&& Int32.toUInt32 31)).toInt32))) ∧ (¬ l0 ≤ (4 : Int32) → P M ((l1 + 2) + ((((l0.toUInt32 >>> ((2 : Int32).toUInt32 &&& Int32.toUInt32 31)).toInt32).toUInt32 >>> ((1 : Int32).toUInt32 &&& Int32.toUInt32 31)).toInt32)))) :
    JW x tb mJ6_numberOfTrailingZeros_0f7a4 d (jI P) 62 [(0, .int l0), (1, .int l1)] [] M := by
  refine jw_iload_n (pc := 62) (j := 0) dJ6_numberOfTrailingZeros_0f7a4_62 rfl rfl ?_
  refine jw_iconst (pc := 63) (v := 4) dJ6_numberOfTrailingZeros_0f7a4_63 rfl ?_
  refine jw_icmp_le (pc := 64) (tgt := 74) dJ6_numberOfTrailingZeros_0f7a4_64 (by decide) (fun c => ?_) (fun c => ?_)
  · replace h := h.1 c
    refine jw_iload_n (pc := 74) (j := 1) dJ6_numberOfTrailingZeros_0f7a4_74 rfl rfl ?_
    refine jw_iload_n (pc := 75) (j := 0) dJ6_numberOfTrailingZeros_0f7a4_75 rfl rfl ?_
    refine jw_iconst (pc := 76) (v := 1) dJ6_numberOfTrailingZeros_0f7a4_76 rfl ?_
    refine jw_iushr (pc := 77) dJ6_numberOfTrailingZeros_0f7a4_77 ?_
    refine jw_iadd (pc := 78) dJ6_numberOfTrailingZeros_0f7a4_78 ?_
    exact jw_iret (pc := 79) dJ6_numberOfTrailingZeros_0f7a4_79 rfl ⟨_, rfl, h⟩
  · replace h := h.2 c
    refine jw_iinc (pc := 67) (j := 1) (u := l1 + 2) (ls' := [(1, .int (l1 + 2)), (0, .int l0)]) dJ6_numberOfTrailingZeros_0f7a4_67 rfl rfl (by decide) rfl ?_
    refine jw_iload_n (pc := 70) (j := 1) dJ6_numberOfTrailingZeros_0f7a4_70 rfl rfl ?_
    refine jw_iconst (pc := 71) (v := 2) dJ6_numberOfTrailingZeros_0f7a4_71 rfl ?_
    refine jw_iushr (pc := 72) dJ6_numberOfTrailingZeros_0f7a4_72 ?_
    refine jw_istore_n (pc := 73) (ls' := [(0, .int ((l0.toUInt32 >>> ((2 : Int32).toUInt32 &&& Int32.toUInt32 31)).toInt32)), (1, .int (l1 + 2))]) dJ6_numberOfTrailingZeros_0f7a4_73 rfl (by decide) rfl ?_
    refine jw_iload_n (pc := 74) (j := 1) dJ6_numberOfTrailingZeros_0f7a4_74 rfl rfl ?_
    refine jw_iload_n (pc := 75) (j := 0) dJ6_numberOfTrailingZeros_0f7a4_75 rfl rfl ?_
    refine jw_iconst (pc := 76) (v := 1) dJ6_numberOfTrailingZeros_0f7a4_76 rfl ?_
    refine jw_iushr (pc := 77) dJ6_numberOfTrailingZeros_0f7a4_77 ?_
    refine jw_iadd (pc := 78) dJ6_numberOfTrailingZeros_0f7a4_78 ?_
    exact jw_iret (pc := 79) dJ6_numberOfTrailingZeros_0f7a4_79 rfl ⟨_, rfl, h⟩
set_option maxRecDepth 20000 in
theorem b_J6_bitCount_0f7a4 {x : jX} {tb : jT} {d : Nat} {M : jM} {P : jM → Int32 → Prop} {a0 : Int32} 
    (h : P M ((((((((a0 - (((a0.toUInt32 >>> ((1 : Int32).toUInt32 &&& Int32.toUInt32 31)).toInt32) &&& (1431655765 : Int32))) &&& (858993459 : Int32)) + ((((a0 - (((a0.toUInt32 >>> ((1 : Int32).toUInt32 &&& Int32.toUInt32 31)).toInt32) &&& (1431655765 : Int32))).toUInt32 >>> ((2 : Int32).toUInt32 &&& Int32.toUInt32 31)).toInt32) &&& (858993459 : Int32))) + (((((a0 - (((a0.toUInt32 >>> ((1 : Int32).toUInt32 &&& Int32.toUInt32 31)).toInt32) &&& (1431655765 : Int32))) &&& (858993459 : Int32)) + ((((a0 - (((a0.toUInt32 >>> ((1 : Int32).toUInt32 &&& Int32.toUInt32 31)).toInt32) &&& (1431655765 : Int32))).toUInt32 >>> ((2 : Int32).toUInt32 &&& Int32.toUInt32 31)).toInt32) &&& (858993459 : Int32))).toUInt32 >>> ((4 : Int32).toUInt32 &&& Int32.toUInt32 31)).toInt32)) &&& (252645135 : Int32)) + (((((((a0 - (((a0.toUInt32 >>> ((1 : Int32).toUInt32 &&& Int32.toUInt32 31)).toInt32) &&& (1431655765 : Int32))) &&& (858993459 : Int32)) + ((((a0 - (((a0.toUInt32 >>> ((1 : Int32).toUInt32 &&& Int32.toUInt32 31)).toInt32) &&& (1431655765 : Int32))).toUInt32 >>> ((2 : Int32).toUInt32 &&& Int32.toUInt32 31)).toInt32) &&& (858993459 : Int32))) + (((((a0 - (((a0.toUInt32 >>> ((1 : Int32).toUInt32 &&& Int32.toUInt32 31)).toInt32) &&& (1431655765 : Int32))) &&& (858993459 : Int32)) + ((((a0 - (((a0.toUInt32 >>> ((1 : Int32).toUInt32 &&& Int32.toUInt32 31)).toInt32) &&& (1431655765 : Int32))).toUInt32 >>> ((2 : Int32).toUInt32 &&& Int32.toUInt32 31)).toInt32) &&& (858993459 : Int32))).toUInt32 >>> ((4 : Int32).toUInt32 &&& Int32.toUInt32 31)).toInt32)) &&& (252645135 : Int32)).toUInt32 >>> ((8 : Int32).toUInt32 &&& Int32.toUInt32 31)).toInt32)) + ((((((((a0 - (((a0.toUInt32 >>> ((1 : Int32).toUInt32 &&& Int32.toUInt32 31)).toInt32) &&& (1431655765 : Int32))) &&& (858993459 : Int32)) + ((((a0 - (((a0.toUInt32 >>> ((1 : Int32).toUInt32 &&& Int32.toUInt32 31)).toInt32) &&& (1431655765 : Int32))).toUInt32 >>> ((2 : Int32).toUInt32 &&& Int32.toUInt32 31)).toInt32) &&& (858993459 : Int32))) + (((((a0 - (((a0.toUInt32 >>> ((1 : Int32).toUInt32 &&& Int32.toUInt32 31)).toInt32) &&& (1431655765 : Int32))) &&& (858993459 : Int32)) + ((((a0 - (((a0.toUInt32 >>> ((1 : Int32).toUInt32 &&& Int32.toUInt32 31)).toInt32) &&& (1431655765 : Int32))).toUInt32 >>> ((2 : Int32).toUInt32 &&& Int32.toUInt32 31)).toInt32) &&& (858993459 : Int32))).toUInt32 >>> ((4 : Int32).toUInt32 &&& Int32.toUInt32 31)).toInt32)) &&& (252645135 : Int32)) + (((((((a0 - (((a0.toUInt32 >>> ((1 : Int32).toUInt32 &&& Int32.toUInt32 31)).toInt32) &&& (1431655765 : Int32))) &&& (858993459 : Int32)) + ((((a0 - (((a0.toUInt32 >>> ((1 : Int32).toUInt32 &&& Int32.toUInt32 31)).toInt32) &&& (1431655765 : Int32))).toUInt32 >>> ((2 : Int32).toUInt32 &&& Int32.toUInt32 31)).toInt32) &&& (858993459 : Int32))) + (((((a0 - (((a0.toUInt32 >>> ((1 : Int32).toUInt32 &&& Int32.toUInt32 31)).toInt32) &&& (1431655765 : Int32))) &&& (858993459 : Int32)) + ((((a0 - (((a0.toUInt32 >>> ((1 : Int32).toUInt32 &&& Int32.toUInt32 31)).toInt32) &&& (1431655765 : Int32))).toUInt32 >>> ((2 : Int32).toUInt32 &&& Int32.toUInt32 31)).toInt32) &&& (858993459 : Int32))).toUInt32 >>> ((4 : Int32).toUInt32 &&& Int32.toUInt32 31)).toInt32)) &&& (252645135 : Int32)).toUInt32 >>> ((8 : Int32).toUInt32 &&& Int32.toUInt32 31)).toInt32)).toUInt32 >>> ((16 : Int32).toUInt32 &&& Int32.toUInt32 31)).toInt32)) &&& (63 : Int32))) :
    JC x tb mJ6_bitCount_0f7a4 d [.int a0] M (jI P) := by
  refine JC.of rfl (Nat.le_of_ble_eq_true rfl) ?_
  refine jw_ls (ls' := [(0, .int a0)]) rfl ?_
  refine jw_iload_n (pc := 0) (j := 0) dJ6_bitCount_0f7a4_0 rfl rfl ?_
  refine jw_iload_n (pc := 1) (j := 0) dJ6_bitCount_0f7a4_1 rfl rfl ?_
  refine jw_iconst (pc := 2) (v := 1) dJ6_bitCount_0f7a4_2 rfl ?_
  refine jw_iushr (pc := 3) dJ6_bitCount_0f7a4_3 ?_
  refine jw_ldcw (pc := 4) (v := 1431655765) dJ6_bitCount_0f7a4_4 kc_J6_265 ?_
  refine jw_iand (pc := 7) dJ6_bitCount_0f7a4_7 ?_
  refine jw_isub (pc := 8) dJ6_bitCount_0f7a4_8 ?_
  refine jw_istore_n (pc := 9) (ls' := [(0, .int (a0 - (((a0.toUInt32 >>> ((1 : Int32).toUInt32 &&& Int32.toUInt32 31)).toInt32) &&& (1431655765 : Int32))))]) dJ6_bitCount_0f7a4_9 rfl (by decide) rfl ?_
  refine jw_iload_n (pc := 10) (j := 0) dJ6_bitCount_0f7a4_10 rfl rfl ?_
  refine jw_ldcw (pc := 11) (v := 858993459) dJ6_bitCount_0f7a4_11 kc_J6_266 ?_
  refine jw_iand (pc := 14) dJ6_bitCount_0f7a4_14 ?_
  refine jw_iload_n (pc := 15) (j := 0) dJ6_bitCount_0f7a4_15 rfl rfl ?_
  refine jw_iconst (pc := 16) (v := 2) dJ6_bitCount_0f7a4_16 rfl ?_
  refine jw_iushr (pc := 17) dJ6_bitCount_0f7a4_17 ?_
  refine jw_ldcw (pc := 18) (v := 858993459) dJ6_bitCount_0f7a4_18 kc_J6_266 ?_
  refine jw_iand (pc := 21) dJ6_bitCount_0f7a4_21 ?_
  refine jw_iadd (pc := 22) dJ6_bitCount_0f7a4_22 ?_
  refine jw_istore_n (pc := 23) (ls' := [(0, .int (((a0 - (((a0.toUInt32 >>> ((1 : Int32).toUInt32 &&& Int32.toUInt32 31)).toInt32) &&& (1431655765 : Int32))) &&& (858993459 : Int32)) + ((((a0 - (((a0.toUInt32 >>> ((1 : Int32).toUInt32 &&& Int32.toUInt32 31)).toInt32) &&& (1431655765 : Int32))).toUInt32 >>> ((2 : Int32).toUInt32 &&& Int32.toUInt32 31)).toInt32) &&& (858993459 : Int32))))]) dJ6_bitCount_0f7a4_23 rfl (by decide) rfl ?_
  refine jw_iload_n (pc := 24) (j := 0) dJ6_bitCount_0f7a4_24 rfl rfl ?_
  refine jw_iload_n (pc := 25) (j := 0) dJ6_bitCount_0f7a4_25 rfl rfl ?_
  refine jw_iconst (pc := 26) (v := 4) dJ6_bitCount_0f7a4_26 rfl ?_
  refine jw_iushr (pc := 27) dJ6_bitCount_0f7a4_27 ?_
  refine jw_iadd (pc := 28) dJ6_bitCount_0f7a4_28 ?_
  refine jw_ldcw (pc := 29) (v := 252645135) dJ6_bitCount_0f7a4_29 kc_J6_267 ?_
  refine jw_iand (pc := 32) dJ6_bitCount_0f7a4_32 ?_
  refine jw_istore_n (pc := 33) (ls' := [(0, .int (((((a0 - (((a0.toUInt32 >>> ((1 : Int32).toUInt32 &&& Int32.toUInt32 31)).toInt32) &&& (1431655765 : Int32))) &&& (858993459 : Int32)) + ((((a0 - (((a0.toUInt32 >>> ((1 : Int32).toUInt32 &&& Int32.toUInt32 31)).toInt32) &&& (1431655765 : Int32))).toUInt32 >>> ((2 : Int32).toUInt32 &&& Int32.toUInt32 31)).toInt32) &&& (858993459 : Int32))) + (((((a0 - (((a0.toUInt32 >>> ((1 : Int32).toUInt32 &&& Int32.toUInt32 31)).toInt32) &&& (1431655765 : Int32))) &&& (858993459 : Int32)) + ((((a0 - (((a0.toUInt32 >>> ((1 : Int32).toUInt32 &&& Int32.toUInt32 31)).toInt32) &&& (1431655765 : Int32))).toUInt32 >>> ((2 : Int32).toUInt32 &&& Int32.toUInt32 31)).toInt32) &&& (858993459 : Int32))).toUInt32 >>> ((4 : Int32).toUInt32 &&& Int32.toUInt32 31)).toInt32)) &&& (252645135 : Int32)))]) dJ6_bitCount_0f7a4_33 rfl (by decide) rfl ?_
  refine jw_iload_n (pc := 34) (j := 0) dJ6_bitCount_0f7a4_34 rfl rfl ?_
  refine jw_iload_n (pc := 35) (j := 0) dJ6_bitCount_0f7a4_35 rfl rfl ?_
  refine jw_bipush (pc := 36) (v := 8) dJ6_bitCount_0f7a4_36 rfl ?_
  refine jw_iushr (pc := 38) dJ6_bitCount_0f7a4_38 ?_
  refine jw_iadd (pc := 39) dJ6_bitCount_0f7a4_39 ?_
  refine jw_istore_n (pc := 40) (ls' := [(0, .int ((((((a0 - (((a0.toUInt32 >>> ((1 : Int32).toUInt32 &&& Int32.toUInt32 31)).toInt32) &&& (1431655765 : Int32))) &&& (858993459 : Int32)) + ((((a0 - (((a0.toUInt32 >>> ((1 : Int32).toUInt32 &&& Int32.toUInt32 31)).toInt32) &&& (1431655765 : Int32))).toUInt32 >>> ((2 : Int32).toUInt32 &&& Int32.toUInt32 31)).toInt32) &&& (858993459 : Int32))) + (((((a0 - (((a0.toUInt32 >>> ((1 : Int32).toUInt32 &&& Int32.toUInt32 31)).toInt32) &&& (1431655765 : Int32))) &&& (858993459 : Int32)) + ((((a0 - (((a0.toUInt32 >>> ((1 : Int32).toUInt32 &&& Int32.toUInt32 31)).toInt32) &&& (1431655765 : Int32))).toUInt32 >>> ((2 : Int32).toUInt32 &&& Int32.toUInt32 31)).toInt32) &&& (858993459 : Int32))).toUInt32 >>> ((4 : Int32).toUInt32 &&& Int32.toUInt32 31)).toInt32)) &&& (252645135 : Int32)) + (((((((a0 - (((a0.toUInt32 >>> ((1 : Int32).toUInt32 &&& Int32.toUInt32 31)).toInt32) &&& (1431655765 : Int32))) &&& (858993459 : Int32)) + ((((a0 - (((a0.toUInt32 >>> ((1 : Int32).toUInt32 &&& Int32.toUInt32 31)).toInt32) &&& (1431655765 : Int32))).toUInt32 >>> ((2 : Int32).toUInt32 &&& Int32.toUInt32 31)).toInt32) &&& (858993459 : Int32))) + (((((a0 - (((a0.toUInt32 >>> ((1 : Int32).toUInt32 &&& Int32.toUInt32 31)).toInt32) &&& (1431655765 : Int32))) &&& (858993459 : Int32)) + ((((a0 - (((a0.toUInt32 >>> ((1 : Int32).toUInt32 &&& Int32.toUInt32 31)).toInt32) &&& (1431655765 : Int32))).toUInt32 >>> ((2 : Int32).toUInt32 &&& Int32.toUInt32 31)).toInt32) &&& (858993459 : Int32))).toUInt32 >>> ((4 : Int32).toUInt32 &&& Int32.toUInt32 31)).toInt32)) &&& (252645135 : Int32)).toUInt32 >>> ((8 : Int32).toUInt32 &&& Int32.toUInt32 31)).toInt32)))]) dJ6_bitCount_0f7a4_40 rfl (by decide) rfl ?_
  refine jw_iload_n (pc := 41) (j := 0) dJ6_bitCount_0f7a4_41 rfl rfl ?_
  refine jw_iload_n (pc := 42) (j := 0) dJ6_bitCount_0f7a4_42 rfl rfl ?_
  refine jw_bipush (pc := 43) (v := 16) dJ6_bitCount_0f7a4_43 rfl ?_
  refine jw_iushr (pc := 45) dJ6_bitCount_0f7a4_45 ?_
  refine jw_iadd (pc := 46) dJ6_bitCount_0f7a4_46 ?_
  refine jw_istore_n (pc := 47) (ls' := [(0, .int (((((((a0 - (((a0.toUInt32 >>> ((1 : Int32).toUInt32 &&& Int32.toUInt32 31)).toInt32) &&& (1431655765 : Int32))) &&& (858993459 : Int32)) + ((((a0 - (((a0.toUInt32 >>> ((1 : Int32).toUInt32 &&& Int32.toUInt32 31)).toInt32) &&& (1431655765 : Int32))).toUInt32 >>> ((2 : Int32).toUInt32 &&& Int32.toUInt32 31)).toInt32) &&& (858993459 : Int32))) + (((((a0 - (((a0.toUInt32 >>> ((1 : Int32).toUInt32 &&& Int32.toUInt32 31)).toInt32) &&& (1431655765 : Int32))) &&& (858993459 : Int32)) + ((((a0 - (((a0.toUInt32 >>> ((1 : Int32).toUInt32 &&& Int32.toUInt32 31)).toInt32) &&& (1431655765 : Int32))).toUInt32 >>> ((2 : Int32).toUInt32 &&& Int32.toUInt32 31)).toInt32) &&& (858993459 : Int32))).toUInt32 >>> ((4 : Int32).toUInt32 &&& Int32.toUInt32 31)).toInt32)) &&& (252645135 : Int32)) + (((((((a0 - (((a0.toUInt32 >>> ((1 : Int32).toUInt32 &&& Int32.toUInt32 31)).toInt32) &&& (1431655765 : Int32))) &&& (858993459 : Int32)) + ((((a0 - (((a0.toUInt32 >>> ((1 : Int32).toUInt32 &&& Int32.toUInt32 31)).toInt32) &&& (1431655765 : Int32))).toUInt32 >>> ((2 : Int32).toUInt32 &&& Int32.toUInt32 31)).toInt32) &&& (858993459 : Int32))) + (((((a0 - (((a0.toUInt32 >>> ((1 : Int32).toUInt32 &&& Int32.toUInt32 31)).toInt32) &&& (1431655765 : Int32))) &&& (858993459 : Int32)) + ((((a0 - (((a0.toUInt32 >>> ((1 : Int32).toUInt32 &&& Int32.toUInt32 31)).toInt32) &&& (1431655765 : Int32))).toUInt32 >>> ((2 : Int32).toUInt32 &&& Int32.toUInt32 31)).toInt32) &&& (858993459 : Int32))).toUInt32 >>> ((4 : Int32).toUInt32 &&& Int32.toUInt32 31)).toInt32)) &&& (252645135 : Int32)).toUInt32 >>> ((8 : Int32).toUInt32 &&& Int32.toUInt32 31)).toInt32)) + ((((((((a0 - (((a0.toUInt32 >>> ((1 : Int32).toUInt32 &&& Int32.toUInt32 31)).toInt32) &&& (1431655765 : Int32))) &&& (858993459 : Int32)) + ((((a0 - (((a0.toUInt32 >>> ((1 : Int32).toUInt32 &&& Int32.toUInt32 31)).toInt32) &&& (1431655765 : Int32))).toUInt32 >>> ((2 : Int32).toUInt32 &&& Int32.toUInt32 31)).toInt32) &&& (858993459 : Int32))) + (((((a0 - (((a0.toUInt32 >>> ((1 : Int32).toUInt32 &&& Int32.toUInt32 31)).toInt32) &&& (1431655765 : Int32))) &&& (858993459 : Int32)) + ((((a0 - (((a0.toUInt32 >>> ((1 : Int32).toUInt32 &&& Int32.toUInt32 31)).toInt32) &&& (1431655765 : Int32))).toUInt32 >>> ((2 : Int32).toUInt32 &&& Int32.toUInt32 31)).toInt32) &&& (858993459 : Int32))).toUInt32 >>> ((4 : Int32).toUInt32 &&& Int32.toUInt32 31)).toInt32)) &&& (252645135 : Int32)) + (((((((a0 - (((a0.toUInt32 >>> ((1 : Int32).toUInt32 &&& Int32.toUInt32 31)).toInt32) &&& (1431655765 : Int32))) &&& (858993459 : Int32)) + ((((a0 - (((a0.toUInt32 >>> ((1 : Int32).toUInt32 &&& Int32.toUInt32 31)).toInt32) &&& (1431655765 : Int32))).toUInt32 >>> ((2 : Int32).toUInt32 &&& Int32.toUInt32 31)).toInt32) &&& (858993459 : Int32))) + (((((a0 - (((a0.toUInt32 >>> ((1 : Int32).toUInt32 &&& Int32.toUInt32 31)).toInt32) &&& (1431655765 : Int32))) &&& (858993459 : Int32)) + ((((a0 - (((a0.toUInt32 >>> ((1 : Int32).toUInt32 &&& Int32.toUInt32 31)).toInt32) &&& (1431655765 : Int32))).toUInt32 >>> ((2 : Int32).toUInt32 &&& Int32.toUInt32 31)).toInt32) &&& (858993459 : Int32))).toUInt32 >>> ((4 : Int32).toUInt32 &&& Int32.toUInt32 31)).toInt32)) &&& (252645135 : Int32)).toUInt32 >>> ((8 : Int32).toUInt32 &&& Int32.toUInt32 31)).toInt32)).toUInt32 >>> ((16 : Int32).toUInt32 &&& Int32.toUInt32 31)).toInt32)))]) dJ6_bitCount_0f7a4_47 rfl (by decide) rfl ?_
  refine jw_iload_n (pc := 48) (j := 0) dJ6_bitCount_0f7a4_48 rfl rfl ?_
  refine jw_bipush (pc := 49) (v := 63) dJ6_bitCount_0f7a4_49 rfl ?_
  refine jw_iand (pc := 51) dJ6_bitCount_0f7a4_51 ?_
  exact jw_iret (pc := 52) dJ6_bitCount_0f7a4_52 rfl ⟨_, rfl, h⟩
