set_option maxRecDepth 20000 in
theorem b_J7_fill_d0a16 {x : jX} {tb : jT} {d : Nat} {M : jM} {P : jM → Prop} {o0 : Nat} {n0 : Nat} {a1 : Int64} (s0 : js tb o0 = (23, n0)) (z0 : n0 < 2 ^ 31)
    (h : JW x tb mJ7_fill_d0a16 d (jV P) 6 [(0, .ref (x.2.2.2 o0)), (1, .long a1), (3, .int (0 : Int32)), (4, .int (nI n0))] [] M) :
    JC x tb mJ7_fill_d0a16 d [.ref (x.2.2.2 o0), .long a1] M (jV P) := by
  refine JC.of rfl (Nat.le_of_ble_eq_true rfl) ?_
  refine jw_ls (ls' := [(0, .ref (x.2.2.2 o0)), (1, .long a1)]) rfl ?_
  refine jw_iconst (pc := 0) (v := 0) dJ7_fill_d0a16_0 rfl ?_
  refine jw_istore_n (pc := 1) (ls' := [(3, .int (0 : Int32)), (0, .ref (x.2.2.2 o0)), (1, .long a1)]) dJ7_fill_d0a16_1 rfl (by decide) rfl ?_
  refine jw_aload_n (pc := 2) (j := 1) dJ7_fill_d0a16_2 rfl rfl ?_
  refine jw_alen (pc := 3) dJ7_fill_d0a16_3 s0 (by decide) (by decide) ?_
  refine jw_istore (pc := 4) (ls' := [(4, .int (nI n0)), (3, .int (0 : Int32)), (0, .ref (x.2.2.2 o0)), (1, .long a1)]) dJ7_fill_d0a16_4 (by decide) rfl ?_
  exact jw_sub [2, 3, 1, 0] rfl h
set_option maxRecDepth 20000 in
theorem b_J7_fill_d0a16_6 {x : jX} {tb : jT} {d : Nat} {M : jM} {P : jM → Prop} {o0 : Nat} {n0 : Nat} {l1 : Int64} {l3 : Int32} {l4 : Int32} (s0 : js tb o0 = (23, n0)) (z0 : n0 < 2 ^ 31)
    (h : (l4 ≤ l3 → P M) ∧ (¬ l4 ≤ l3 → ∃ j1, j1 < n0 ∧ l3 = nI j1 ∧ (∀ M1, M1 = jrL M o0 (vp_updL (M.2 o0) j1 l1) → JW x tb mJ7_fill_d0a16 d (jV P) 6 [(0, .ref (x.2.2.2 o0)), (1, .long l1), (3, .int (l3 + 1)), (4, .int l4)] [] M1))) :
    JW x tb mJ7_fill_d0a16 d (jV P) 6 [(0, .ref (x.2.2.2 o0)), (1, .long l1), (3, .int l3), (4, .int l4)] [] M := by
  refine jw_iload_n (pc := 6) (j := 2) dJ7_fill_d0a16_6 rfl rfl ?_
  refine jw_iload (pc := 7) (j := 3) dJ7_fill_d0a16_7 rfl ?_
  refine jw_icmp_ge (pc := 9) (tgt := 22) dJ7_fill_d0a16_9 (by decide) (fun c => ?_) (fun c => ?_)
  · replace h := h.1 c
    exact jw_vret (pc := 22) dJ7_fill_d0a16_22 rfl ⟨rfl, h⟩
  · replace h := h.2 c
    refine jw_aload_n (pc := 12) (j := 0) dJ7_fill_d0a16_12 rfl rfl ?_
    refine jw_iload_n (pc := 13) (j := 2) dJ7_fill_d0a16_13 rfl rfl ?_
    refine jw_lload_n (pc := 14) (j := 1) dJ7_fill_d0a16_14 rfl rfl ?_
    obtain ⟨j1, hj1, ej1, h⟩ := h
    refine jw_last (pc := 15) (j := j1) dJ7_fill_d0a16_15 s0 hj1 ej1 z0 ?_
    replace h := h _ rfl
    generalize jrL M o0 (vp_updL (M.2 o0) j1 l1) = M1 at h ⊢
    refine jw_iinc (pc := 16) (j := 2) (u := l3 + 1) (ls' := [(3, .int (l3 + 1)), (0, .ref (x.2.2.2 o0)), (1, .long l1), (4, .int l4)]) dJ7_fill_d0a16_16 rfl rfl (by decide) rfl ?_
    refine jw_goto (pc := 19) (tgt := 6) dJ7_fill_d0a16_19 (by decide) ?_
    exact jw_sub [1, 2, 0, 3] rfl h
set_option maxRecDepth 20000 in
theorem b_J7_fill_53178 {x : jX} {tb : jT} {d : Nat} {M : jM} {P : jM → Prop} {o0 : Nat} {n0 : Nat} {a1 : Int32} (s0 : js tb o0 = (20, n0)) (z0 : n0 < 2 ^ 31)
    (h : JW x tb mJ7_fill_53178 d (jV P) 5 [(0, .ref (x.2.2.2 o0)), (1, .int a1), (2, .int (0 : Int32)), (3, .int (nI n0))] [] M) :
    JC x tb mJ7_fill_53178 d [.ref (x.2.2.2 o0), .int a1] M (jV P) := by
  refine JC.of rfl (Nat.le_of_ble_eq_true rfl) ?_
  refine jw_ls (ls' := [(0, .ref (x.2.2.2 o0)), (1, .int a1)]) rfl ?_
  refine jw_iconst (pc := 0) (v := 0) dJ7_fill_53178_0 rfl ?_
  refine jw_istore_n (pc := 1) (ls' := [(2, .int (0 : Int32)), (0, .ref (x.2.2.2 o0)), (1, .int a1)]) dJ7_fill_53178_1 rfl (by decide) rfl ?_
  refine jw_aload_n (pc := 2) (j := 1) dJ7_fill_53178_2 rfl rfl ?_
  refine jw_alen (pc := 3) dJ7_fill_53178_3 s0 (by decide) (by decide) ?_
  refine jw_istore_n (pc := 4) (ls' := [(3, .int (nI n0)), (2, .int (0 : Int32)), (0, .ref (x.2.2.2 o0)), (1, .int a1)]) dJ7_fill_53178_4 rfl (by decide) rfl ?_
  exact jw_sub [2, 3, 1, 0] rfl h
set_option maxRecDepth 20000 in
theorem b_J7_fill_53178_5 {x : jX} {tb : jT} {d : Nat} {M : jM} {P : jM → Prop} {o0 : Nat} {n0 : Nat} {l1 : Int32} {l2 : Int32} {l3 : Int32} (s0 : js tb o0 = (20, n0)) (z0 : n0 < 2 ^ 31)
    (h : (l3 ≤ l2 → P M) ∧ (¬ l3 ≤ l2 → ∃ j1, j1 < n0 ∧ l2 = nI j1 ∧ (∀ M1, M1 = jrI M o0 (upd (M.1 o0) j1 l1) → JW x tb mJ7_fill_53178 d (jV P) 5 [(0, .ref (x.2.2.2 o0)), (1, .int l1), (2, .int (l2 + 1)), (3, .int l3)] [] M1))) :
    JW x tb mJ7_fill_53178 d (jV P) 5 [(0, .ref (x.2.2.2 o0)), (1, .int l1), (2, .int l2), (3, .int l3)] [] M := by
  refine jw_iload_n (pc := 5) (j := 2) dJ7_fill_53178_5 rfl rfl ?_
  refine jw_iload_n (pc := 6) (j := 3) dJ7_fill_53178_6 rfl rfl ?_
  refine jw_icmp_ge (pc := 7) (tgt := 20) dJ7_fill_53178_7 (by decide) (fun c => ?_) (fun c => ?_)
  · replace h := h.1 c
    exact jw_vret (pc := 20) dJ7_fill_53178_20 rfl ⟨rfl, h⟩
  · replace h := h.2 c
    refine jw_aload_n (pc := 10) (j := 0) dJ7_fill_53178_10 rfl rfl ?_
    refine jw_iload_n (pc := 11) (j := 2) dJ7_fill_53178_11 rfl rfl ?_
    refine jw_iload_n (pc := 12) (j := 1) dJ7_fill_53178_12 rfl rfl ?_
    obtain ⟨j1, hj1, ej1, h⟩ := h
    refine jw_iast (pc := 13) (j := j1) dJ7_fill_53178_13 s0 hj1 ej1 z0 ?_
    replace h := h _ rfl
    generalize jrI M o0 (upd (M.1 o0) j1 l1) = M1 at h ⊢
    refine jw_iinc (pc := 14) (j := 2) (u := l2 + 1) (ls' := [(2, .int (l2 + 1)), (0, .ref (x.2.2.2 o0)), (1, .int l1), (3, .int l3)]) dJ7_fill_53178_14 rfl rfl (by decide) rfl ?_
    refine jw_goto (pc := 17) (tgt := 5) dJ7_fill_53178_17 (by decide) ?_
    exact jw_sub [1, 2, 0, 3] rfl h
