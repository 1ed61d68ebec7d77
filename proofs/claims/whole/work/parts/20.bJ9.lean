set_option maxRecDepth 20000 in
theorem b_J9_abs_067f4 {x : jX} {tb : jT} {d : Nat} {M : jM} {P : jM → Int64 → Prop} {a0 : Int64} 
    (h : ((0 : Int64) ≤ a0 → P M a0) ∧ (¬ (0 : Int64) ≤ a0 → P M (-a0))) :
    JC x tb mJ9_abs_067f4 d [.long a0] M (jL P) := by
  refine JC.ofF jpf_abs (Nat.le_of_ble_eq_true rfl) ?_
  refine jw_ls (ls' := [(0, .long a0)]) rfl ?_
  refine jw_lload_n (pc := 0) (j := 0) dJ9_abs_067f4_0 rfl rfl ?_
  refine jw_lconst (pc := 1) (v := 0) dJ9_abs_067f4_1 rfl ?_
  refine jw_lcmp (pc := 2) dJ9_abs_067f4_2 ?_
  refine jw_if_ge (pc := 3) (tgt := 11) dJ9_abs_067f4_3 (by decide) (fun c => ?_) (fun c => ?_)
  · replace h := h.1 ((jcmp_ge _ _).mp c)
    refine jw_lload_n (pc := 11) (j := 0) dJ9_abs_067f4_11 rfl rfl ?_
    exact jw_lret (pc := 12) dJ9_abs_067f4_12 rfl ⟨_, rfl, h⟩
  · replace h := h.2 (fun z => c ((jcmp_ge _ _).mpr z))
    refine jw_lload_n (pc := 6) (j := 0) dJ9_abs_067f4_6 rfl rfl ?_
    refine jw_lneg (pc := 7) dJ9_abs_067f4_7 ?_
    refine jw_goto (pc := 8) (tgt := 12) dJ9_abs_067f4_8 (by decide) ?_
    exact jw_lret (pc := 12) dJ9_abs_067f4_12 rfl ⟨_, rfl, h⟩
set_option maxRecDepth 20000 in
theorem b_J9_max_7cf53 {x : jX} {tb : jT} {d : Nat} {M : jM} {P : jM → Int32 → Prop} {a0 : Int32} {a1 : Int32} 
    (h : (a0 < a1 → P M a1) ∧ (¬ a0 < a1 → P M a0)) :
    JC x tb mJ9_max_7cf53 d [.int a0, .int a1] M (jI P) := by
  refine JC.ofF jpf_max (Nat.le_of_ble_eq_true rfl) ?_
  refine jw_ls (ls' := [(0, .int a0), (1, .int a1)]) rfl ?_
  refine jw_iload_n (pc := 0) (j := 0) dJ9_max_7cf53_0 rfl rfl ?_
  refine jw_iload_n (pc := 1) (j := 1) dJ9_max_7cf53_1 rfl rfl ?_
  refine jw_icmp_lt (pc := 2) (tgt := 9) dJ9_max_7cf53_2 (by decide) (fun c => ?_) (fun c => ?_)
  · replace h := h.1 c
    refine jw_iload_n (pc := 9) (j := 1) dJ9_max_7cf53_9 rfl rfl ?_
    exact jw_iret (pc := 10) dJ9_max_7cf53_10 rfl ⟨_, rfl, h⟩
  · replace h := h.2 c
    refine jw_iload_n (pc := 5) (j := 0) dJ9_max_7cf53_5 rfl rfl ?_
    refine jw_goto (pc := 6) (tgt := 10) dJ9_max_7cf53_6 (by decide) ?_
    exact jw_iret (pc := 10) dJ9_max_7cf53_10 rfl ⟨_, rfl, h⟩
set_option maxRecDepth 20000 in
theorem b_J9_max_f86c9 {x : jX} {tb : jT} {d : Nat} {M : jM} {P : jM → Int64 → Prop} {a0 : Int64} {a2 : Int64} 
    (h : (a0 < a2 → P M a2) ∧ (¬ a0 < a2 → P M a0)) :
    JC x tb mJ9_max_f86c9 d [.long a0, .long a2] M (jL P) := by
  refine JC.ofF jpf_maxL (Nat.le_of_ble_eq_true rfl) ?_
  refine jw_ls (ls' := [(0, .long a0), (2, .long a2)]) rfl ?_
  refine jw_lload_n (pc := 0) (j := 0) dJ9_max_f86c9_0 rfl rfl ?_
  refine jw_lload_n (pc := 1) (j := 1) dJ9_max_f86c9_1 rfl rfl ?_
  refine jw_lcmp (pc := 2) dJ9_max_f86c9_2 ?_
  refine jw_if_lt (pc := 3) (tgt := 10) dJ9_max_f86c9_3 (by decide) (fun c => ?_) (fun c => ?_)
  · replace h := h.1 ((jcmp_lt _ _).mp c)
    refine jw_lload_n (pc := 10) (j := 1) dJ9_max_f86c9_10 rfl rfl ?_
    exact jw_lret (pc := 11) dJ9_max_f86c9_11 rfl ⟨_, rfl, h⟩
  · replace h := h.2 (fun z => c ((jcmp_lt _ _).mpr z))
    refine jw_lload_n (pc := 6) (j := 0) dJ9_max_f86c9_6 rfl rfl ?_
    refine jw_goto (pc := 7) (tgt := 11) dJ9_max_f86c9_7 (by decide) ?_
    exact jw_lret (pc := 11) dJ9_max_f86c9_11 rfl ⟨_, rfl, h⟩
set_option maxRecDepth 20000 in
theorem b_J9_min_7cf53 {x : jX} {tb : jT} {d : Nat} {M : jM} {P : jM → Int32 → Prop} {a0 : Int32} {a1 : Int32} 
    (h : (a1 < a0 → P M a1) ∧ (¬ a1 < a0 → P M a0)) :
    JC x tb mJ9_min_7cf53 d [.int a0, .int a1] M (jI P) := by
  refine JC.ofF jpf_min (Nat.le_of_ble_eq_true rfl) ?_
  refine jw_ls (ls' := [(0, .int a0), (1, .int a1)]) rfl ?_
  refine jw_iload_n (pc := 0) (j := 0) dJ9_min_7cf53_0 rfl rfl ?_
  refine jw_iload_n (pc := 1) (j := 1) dJ9_min_7cf53_1 rfl rfl ?_
  refine jw_icmp_gt (pc := 2) (tgt := 9) dJ9_min_7cf53_2 (by decide) (fun c => ?_) (fun c => ?_)
  · replace h := h.1 c
    refine jw_iload_n (pc := 9) (j := 1) dJ9_min_7cf53_9 rfl rfl ?_
    exact jw_iret (pc := 10) dJ9_min_7cf53_10 rfl ⟨_, rfl, h⟩
  · replace h := h.2 c
    refine jw_iload_n (pc := 5) (j := 0) dJ9_min_7cf53_5 rfl rfl ?_
    refine jw_goto (pc := 6) (tgt := 10) dJ9_min_7cf53_6 (by decide) ?_
    exact jw_iret (pc := 10) dJ9_min_7cf53_10 rfl ⟨_, rfl, h⟩
