/-! the reader's words -/
def rSt : Nat → Nat × List Int64
  | 0 => (0, List.replicate 26 0)
  | i + 1 => if kbt.getD i 0 = 32 then ((rSt i).1 + 1, (rSt i).2) else ((rSt i).1, (rSt i).2.set (rSt i).1 (((rSt i).2.getD (rSt i).1 0 <<< ((5 : Int32).toInt64 &&& 63)) ||| ((kbt.getD i 0 - 97) + 1).toInt64))
theorem rSt_len : ∀ i, (rSt i).2.length = 26 := by
  intro i
  induction i with
  | zero => rfl
  | succ i ih =>
    show (if kbt.getD i 0 = 32 then ((rSt i).1 + 1, (rSt i).2) else ((rSt i).1, (rSt i).2.set (rSt i).1 (((rSt i).2.getD (rSt i).1 0 <<< ((5 : Int32).toInt64 &&& 63)) ||| ((kbt.getD i 0 - 97) + 1).toInt64))).2.length = 26
    split
    · exact ih
    · rw [List.length_set]; exact ih
theorem rSt_k : ∀ i, i < 114 → (rSt i).1 < 26 := by decide +kernel
theorem rSt_end : ∀ k, k < 26 → (rSt 114).2.getD k 0 = qWord k := by decide +kernel
theorem k_setD {l : List Int64} {k : Nat} {v : Int64} (h : k < l.length) : (l.set k v).getD k 0 = v := by rw [List.getD_eq_getElem?_getD, List.getElem?_set_self h]; rfl
theorem k_setN {l : List Int64} {j k : Nat} {v : Int64} (h : ¬ j = k) : (l.set k v).getD j 0 = l.getD j 0 := by rw [List.getD_eq_getElem?_getD, List.getD_eq_getElem?_getD, List.getElem?_set_ne (fun e => h e.symm)]
section KRD
variable {x : kX} {d h0 q0 q1 : Nat} {Q : va_W → Option Value → Prop}
abbrev kFs (q0 q1 : Nat) : List Value := [.int 0, .int 0, .int 0, .int 0, .long 0, .int 0, .int 0, .int 0, .ref q0, .ref q1, .int 0, .int 0, .int 0, .int 0]
abbrev kWs (x : kX) (h0 q0 q1 : Nat) (f : Nat → Int64) : va_W := [(h0, .inr (7, kFs q0 q1)), (q0, .inl (x.2.2.1 23, 26, .inr (.inl f))), (q1, .inl (x.2.2.1 21, 0, .inl (fun _ => 0)))]
theorem rd_loop (hQ : Q (kWs x h0 q0 q1 qWord) none) : ∀ (n i : Nat), i + n = 114 → KW x mX7_init (d + 4) 2 26 (0 + 1 + 1) (0 + 26 + 0) Q 23 [(0, .ref h0), (1, .int (nI (rSt i).1)), (2, .int (nI i))] [] (kWs x h0 q0 q1 (fun j => (rSt i).2.getD j 0)) := by
  intro n
  induction n with
  | zero =>
    intro i hi
    obtain rfl : i = 114 := by omega
    refine kw_re (pre := [(h0, .inr (7, kFs q0 q1))]) (post := [(q1, .inl (x.2.2.1 21, 0, .inl (fun _ => 0)))]) (k_reL (g := qWord) rSt_end) rfl ?_
    refine kw_iload_n (pc := 23) (j := 2) dX7_init_23 rfl rfl ?_
    refine kw_ldcS (pc := 24) dX7_init_24 rfl ?_
    refine kw_str (As := []) (st := [.int (nI 114)]) (pc := 26) (Q2 := fun _ r => r = some (.int 114)) dX7_init_26 gm_J0_length_8abf5 rfl ml_X7_21 rfl (Nat.le_of_ble_eq_true rfl) (Nat.le_of_ble_eq_true rfl) (Nat.le_of_ble_eq_true rfl) s_length (fun r hr => ?_)
    subst hr
    refine kw_icmp_ge (pc := 29) (tgt := 85) dX7_init_29 (by decide) (fun _ => ?_) (fun c => absurd (by decide) c)
    exact kw_vret (pc := 85) dX7_init_85 rfl rfl rfl hQ
  | succ n ih =>
    intro i hi
    have hk := rSt_k i (by omega)
    have h79 : ∀ k', (rSt (i + 1)).1 = k' → KW x mX7_init (d + 4) 2 26 (0 + 1 + 1) (0 + 26 + 0) Q 79 [(0, .ref h0), (1, .int (nI k')), (2, .int (nI i))] [] (kWs x h0 q0 q1 (fun j => (rSt (i + 1)).2.getD j 0)) := by
      rintro k' rfl
      refine kw_iinc (pc := 79) (j := 2) (u := nI (i + 1)) (ls' := [(2, .int (nI (i + 1))), (0, .ref h0), (1, .int (nI (rSt (i + 1)).1))]) dX7_init_79 rfl (nI_1 i) (by decide) rfl ?_
      refine kw_goto (pc := 82) (tgt := 23) dX7_init_82 (by decide) ?_
      refine kw_sub [1, 2, 0] (ls' := [(0, .ref h0), (1, .int (nI (rSt (i + 1)).1)), (2, .int (nI (i + 1)))]) rfl ?_
      exact ih (i + 1) (by omega)
    refine kw_iload_n (pc := 23) (j := 2) dX7_init_23 rfl rfl ?_
    refine kw_ldcS (pc := 24) dX7_init_24 rfl ?_
    refine kw_str (As := []) (st := [.int (nI i)]) (pc := 26) (Q2 := fun _ r => r = some (.int 114)) dX7_init_26 gm_J0_length_8abf5 rfl ml_X7_21 rfl (Nat.le_of_ble_eq_true rfl) (Nat.le_of_ble_eq_true rfl) (Nat.le_of_ble_eq_true rfl) s_length (fun r hr => ?_)
    subst hr
    refine kw_icmp_ge (pc := 29) (tgt := 85) dX7_init_29 (by decide) (fun c => absurd c (nI_ge (b := 114) (by omega) (by decide))) (fun _ => ?_)
    refine kw_iload_n (pc := 32) (j := 1) dX7_init_32 rfl rfl ?_
    refine kw_bipush (pc := 33) (v := 26) dX7_init_33 rfl ?_
    refine kw_icmp_ge (pc := 35) (tgt := 85) dX7_init_35 (by decide) (fun c => absurd c (nI_ge (b := 26) hk (by decide))) (fun _ => ?_)
    refine kw_ldcS (pc := 38) dX7_init_38 rfl ?_
    refine kw_iload_n (pc := 40) (j := 2) dX7_init_40 rfl rfl ?_
    refine kw_str (As := [.int (nI i)]) (st := []) (pc := 41) (Q2 := fun _ r => r = some (.int (kbt.getD i 0))) dX7_init_41 gm_J0_charAt_5068e rfl ml_X7_27 rfl (Nat.le_of_ble_eq_true rfl) (Nat.le_of_ble_eq_true rfl) (Nat.le_of_ble_eq_true rfl) (s_charAt (by omega)) (fun r hr => ?_)
    subst hr
    refine kw_istore_n (pc := 44) (ls' := [(3, .int (kbt.getD i 0)), (0, .ref h0), (1, .int (nI (rSt i).1)), (2, .int (nI i))]) dX7_init_44 rfl (by decide) rfl ?_
    refine kw_iload_n (pc := 45) (j := 0) dX7_init_45 rfl rfl ?_
    refine kw_bipush (pc := 46) (v := 32) dX7_init_46 rfl ?_
    refine kw_icmp_ne (pc := 48) (tgt := 57) dX7_init_48 (by decide) (fun c => ?_) (fun c => ?_)
    · have e : rSt (i + 1) = ((rSt i).1, (rSt i).2.set (rSt i).1 (((rSt i).2.getD (rSt i).1 0 <<< ((5 : Int32).toInt64 &&& 63)) ||| ((kbt.getD i 0 - 97) + 1).toInt64)) := by
        show (if kbt.getD i 0 = 32 then ((rSt i).1 + 1, (rSt i).2) else _) = _
        rw [if_neg c]
      refine kw_aload_n (pc := 57) (j := 1) dX7_init_57 rfl rfl ?_
      refine kw_get (pc := 58) dX7_init_58 fl_X7_9 rfl ?_
      refine kw_iload_n (pc := 61) (j := 2) dX7_init_61 rfl rfl ?_
      refine kw_aload_n (pc := 62) (j := 1) dX7_init_62 rfl rfl ?_
      refine kw_get (pc := 63) dX7_init_63 fl_X7_9 rfl ?_
      refine kw_iload_n (pc := 66) (j := 2) dX7_init_66 rfl rfl ?_
      refine kw_lald (pc := 67) (j := (rSt i).1) (pre := [(h0, .inr (7, kFs q0 q1))]) (post := [(q1, .inl (x.2.2.1 21, 0, .inl (fun _ => 0)))]) dX7_init_67 hk rfl (by decide) rfl ?_
      refine kw_iconst (pc := 68) (v := 5) dX7_init_68 rfl ?_
      refine kw_lshl (pc := 69) dX7_init_69 ?_
      refine kw_iload_n (pc := 70) (j := 0) dX7_init_70 rfl rfl ?_
      refine kw_bipush (pc := 71) (v := 97) dX7_init_71 rfl ?_
      refine kw_isub (pc := 73) dX7_init_73 ?_
      refine kw_iconst (pc := 74) (v := 1) dX7_init_74 rfl ?_
      refine kw_iadd (pc := 75) dX7_init_75 ?_
      refine kw_i2l (pc := 76) dX7_init_76 ?_
      refine kw_lor (pc := 77) dX7_init_77 ?_
      refine kw_last (pc := 78) (j := (rSt i).1) (pre := [(h0, .inr (7, kFs q0 q1))]) (post := [(q1, .inl (x.2.2.1 21, 0, .inl (fun _ => 0)))]) dX7_init_78 hk rfl (by decide) rfl ?_
      refine kw_re (pre := [(h0, .inr (7, kFs q0 q1))]) (post := [(q1, .inl (x.2.2.1 21, 0, .inl (fun _ => 0)))]) (k_reL (g := fun j => (rSt (i + 1)).2.getD j 0) ?_) rfl ?_
      · intro j hj
        rw [e]
        show (if j = (rSt i).1 then _ else (rSt i).2.getD j 0) = _
        have hl := rSt_len i
        by_cases ej : j = (rSt i).1
        · subst ej
          rw [if_pos rfl]
          exact (k_setD (by omega)).symm
        · rw [if_neg ej]
          exact (k_setN ej).symm
      · refine kw_sub [1, 2, 3] (ls' := [(0, .ref h0), (1, .int (nI (rSt i).1)), (2, .int (nI i))]) rfl ?_
        exact h79 _ (by rw [e])
    · have e : rSt (i + 1) = ((rSt i).1 + 1, (rSt i).2) := by
        show (if kbt.getD i 0 = 32 then ((rSt i).1 + 1, (rSt i).2) else _) = _
        rw [if_pos c]
      refine kw_iinc (pc := 51) (j := 2) (u := nI ((rSt i).1 + 1)) (ls' := [(1, .int (nI ((rSt i).1 + 1))), (3, .int (kbt.getD i 0)), (0, .ref h0), (2, .int (nI i))]) dX7_init_51 rfl (nI_1 _) (by decide) rfl ?_
      refine kw_goto (pc := 54) (tgt := 79) dX7_init_54 (by decide) ?_
      refine kw_sub [2, 0, 3] (ls' := [(0, .ref h0), (1, .int (nI ((rSt i).1 + 1))), (2, .int (nI i))]) rfl ?_
      have := h79 _ (show (rSt (i + 1)).1 = (rSt i).1 + 1 by rw [e])
      rw [e] at this
      exact this
end KRD
theorem c_X7 {x : kX} {d h0 p : Nat} {M : jM} (hp : p < 1000) (h1 : M.1 p = fun k => if k = 9 then nI (p + 2) else 0) (h2 : M.2 p = fun _ => 0) (h3 : M.2 (p + 1) = qWord) (h4 : M.1 (p + 2) = fun _ => 0) : KC x mX7_init (d + 4) 2 26 [.ref h0] [(h0, .inr (7, zX7))] (fun w r => r = none ∧ kI x p h0 ft7 M w) := by
  refine KC.of (by decide +kernel) (Nat.le_of_ble_eq_true rfl) ?_
  refine kw_ls (ls' := [(0, .ref h0)]) rfl ?_
  refine kw_aload_n (pc := 0) (j := 0) dX7_init_0 rfl rfl ?_
  refine kw_obj (pc := 1) dX7_init_1 ob_X7 ob_i ob_c (Nat.le_of_ble_eq_true rfl) ?_
  refine kw_aload_n (pc := 4) (j := 0) dX7_init_4 rfl rfl ?_
  refine kw_bipush (pc := 5) (v := 26) dX7_init_5 rfl ?_
  refine kw_newL (pc := 7) (N := 26) dX7_init_7 (by decide) (by decide) (by decide) (Nat.le_of_ble_eq_true rfl) (Nat.le_of_ble_eq_true rfl) aw_L (fun q0 => ?_)
  refine kw_ws (ws' := [(h0, .inr (7, zX7)), (q0, .inl (x.2.2.1 23, 26, .inr (.inl (fun _ => 0))))]) rfl ?_
  refine kw_putF (pc := 9) (fs' := [.int 0, .int 0, .int 0, .int 0, .long 0, .int 0, .int 0, .int 0, .ref q0, .null, .int 0, .int 0, .int 0, .int 0]) dX7_init_9 fl_X7_9 kf_7_8 rfl rfl rfl (Nat.le_of_ble_eq_true rfl) rfl ?_
  refine kw_aload_n (pc := 12) (j := 0) dX7_init_12 rfl rfl ?_
  refine kw_iconst (pc := 13) (v := 0) dX7_init_13 rfl ?_
  refine kw_newB (pc := 14) (N := 0) dX7_init_14 (by decide) (by decide) (by decide) (Nat.le_of_ble_eq_true rfl) (Nat.le_of_ble_eq_true rfl) aw_B (fun q1 => ?_)
  refine kw_ws (ws' := [(h0, .inr (7, [.int 0, .int 0, .int 0, .int 0, .long 0, .int 0, .int 0, .int 0, .ref q0, .null, .int 0, .int 0, .int 0, .int 0])), (q0, .inl (x.2.2.1 23, 26, .inr (.inl (fun _ => 0)))), (q1, .inl (x.2.2.1 21, 0, .inl (fun _ => 0)))]) rfl ?_
  refine kw_put (pc := 16) (fs' := kFs q0 q1) dX7_init_16 fl_X7_15 fw_7_9 rfl rfl (Nat.le_of_ble_eq_true rfl) rfl ?_
  refine kw_iconst (pc := 19) (v := 0) dX7_init_19 rfl ?_
  refine kw_istore_n (pc := 20) (ls' := [(1, .int 0), (0, .ref h0)]) dX7_init_20 rfl (by decide) rfl ?_
  refine kw_iconst (pc := 21) (v := 0) dX7_init_21 rfl ?_
  refine kw_istore_n (pc := 22) (ls' := [(2, .int 0), (1, .int 0), (0, .ref h0)]) dX7_init_22 rfl (by decide) rfl ?_
  refine kw_sub [2, 1, 0] (ls' := [(0, .ref h0), (1, .int (nI (rSt 0).1)), (2, .int (nI 0))]) rfl ?_
  refine kw_re (pre := [(h0, .inr (7, kFs q0 q1))]) (post := [(q1, .inl (x.2.2.1 21, 0, .inl (fun _ => 0)))]) (k_reL (g := fun j => (rSt 0).2.getD j 0) (by decide +kernel)) rfl ?_
  refine rd_loop ⟨rfl, ?_⟩ 114 0 rfl
  obtain ⟨ad, hA⟩ : ∃ ad : Nat → Nat, ∀ i, ad (p + i) = if i < 1 then h0 else if i < 2 then q0 else q1 := ⟨fun k => if (k - p) < 1 then h0 else if (k - p) < 2 then q0 else q1, fun i => by simp only [Nat.add_sub_cancel_left]⟩
  have e0 : ad (p + 0) = h0 := by rw [hA]; rfl
  have e1 : ad (p + 1) = q0 := by rw [hA]; rfl
  have e2 : ad (p + 2) = q1 := by rw [hA]; rfl
  have f0 : jfs ad M 7 (p + 0) = kFs q0 q1 := by
    show ([.int (M.1 p 0), .int (M.1 p 1), .int (M.1 p 2), .int (M.1 p 3), .long (M.2 p 4), .int (M.1 p 5), .int (M.1 p 6), .int (M.1 p 7), .ref (ad (p + 1)), .ref (ad (M.1 p 9).toNatClampNeg), .int (M.1 p 10), .int (M.1 p 11), .int (M.1 p 12), .int (M.1 p 13)] : List Value) = _
    have t : (M.1 p 9).toNatClampNeg = p + 2 := by rw [h1]; exact nI_clamp (by omega)
    rw [t, e1, e2, h1, h2]
    rfl
  refine ⟨ad, e0, ?_⟩
  have ht : jsh p ft7 = (p + 0, 7, 14) :: ((p + 1, 23, 26) :: ((p + 2, 21, 0) :: [])) := rfl
  rw [ht, jw_cons, jw_cons, jw_cons, jw_nil, je_o (by decide) f0, je_23 h3, je_21 h4]
  show _ = ((ad (p + 0), .inr (7, kFs q0 q1)) :: ((ad (p + 1), .inl (x.2.2.1 23, 26, .inr (.inl qWord))) :: ((ad (p + 2), .inl (x.2.2.1 21, 0, .inl (fun _ => 0))) :: [])) : va_W)
  rw [e0, e1, e2]
