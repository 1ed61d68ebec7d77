/-! the constructors -/
def kj (x : kX) (ad : Nat → Nat) : jX := (x.1, x.2.1, x.2.2.1, ad)
def jsh (p : Nat) (ft : jT) : jT := ft.map (fun q => (p + q.1, q.2))
/-- what a constructor leaves: a table of places, at addresses of its own -/
def kI (x : kX) (p h0 : Nat) (ft : jT) (M : jM) (w : va_W) : Prop := ∃ ad : Nat → Nat, ad p = h0 ∧ w = jw (kj x ad) (jsh p ft) M
theorem k_ad (p : Nat) (qs : List Nat) : ∃ ad : Nat → Nat, ∀ i, ad (p + i) = qs.getD i 0 := ⟨fun k => qs.getD (k - p) 0, fun i => by show qs.getD (p + i - p) 0 = _; rw [Nat.add_sub_cancel_left]⟩
/-- a table speaks of places within a range alone -/
def jck (ft : jT) (n : Nat) : Bool := ft.all (fun q => decide (q.1 < n) && decide (q.2.1 ≤ 23) && (List.range (jfn q.2.1)).all (fun k => decide (jfk q.2.1 k = 0) || decide (jfk q.2.1 k = 1) || (decide (jfk q.2.1 k = 2) && decide (q.1 + jof q.2.1 k < n)) || (decide (jfk q.2.1 k = 3) && decide (q.2.1 = 7) && decide (k = 9) && decide (q.1 + 2 < n))))
theorem jw_cong {x : kX} {ad ad' : Nat → Nat} {ft : jT} {n p : Nat} {M : jM} (hk : jck ft n = true) (ht : ∀ q ∈ ft, q.2.1 = 7 → (M.1 (p + q.1) 9).toNatClampNeg = p + (q.1 + 2)) (ha : ∀ i, i < n → ad (p + i) = ad' (p + i)) : jw (kj x ad) (jsh p ft) M = jw (kj x ad') (jsh p ft) M := by
  unfold jw jsh
  rw [List.map_map, List.map_map]
  apply List.map_congr_left
  intro q hq
  have h1 := List.all_eq_true.mp hk q hq
  rw [Bool.and_eq_true, Bool.and_eq_true] at h1
  obtain ⟨⟨h1, h2⟩, h3⟩ := h1
  have h1 := of_decide_eq_true h1
  have h2 := of_decide_eq_true h2
  have ht := ht q hq
  show (ad (p + q.1), jent (kj x ad) M (p + q.1, q.2)) = (ad' (p + q.1), jent (kj x ad') M (p + q.1, q.2))
  rw [ha _ h1]
  congr 1
  obtain ⟨a, ci, n'⟩ := q
  dsimp only at h1 h2 h3 ht ⊢
  unfold jent
  dsimp only
  by_cases c1 : ci < 20
  · rw [if_pos c1, if_pos c1]
    have e : jfs (kj x ad).2.2.2 M ci (p + a) = jfs (kj x ad').2.2.2 M ci (p + a) := by
      unfold jfs
      apply List.map_congr_left
      intro k hk2
      have h4 := List.all_eq_true.mp h3 k hk2
      simp only [Bool.or_eq_true, Bool.and_eq_true, decide_eq_true_eq] at h4
      show jfv ad M ci (p + a) k = jfv ad' M ci (p + a) k
      unfold jfv
      rcases h4 with ((h4 | h4) | ⟨h4, h5⟩) | ⟨⟨⟨h4, h5⟩, h6⟩, h7⟩
      · simp [h4]
      · simp [h4]
      · simp [h4, Nat.add_assoc, ha _ h5]
      · subst h6
        simp [h4, ht h5, ha _ h7]
    rw [e]
  · rw [if_neg c1, if_neg c1]
    by_cases c2 : ci < 23
    · rw [if_pos c2, if_pos c2]; rfl
    · rw [if_neg c2, if_neg c2]
      have c3 : ci = 23 := by omega
      rw [if_pos c3, if_pos c3]; rfl
theorem jw_cons {x : jX} {q : Nat × Nat × Nat} {t : jT} {M : jM} : jw x (q :: t) M = (x.2.2.2 q.1, jent x M q) :: jw x t M := rfl
theorem jw_app {x : jX} {t u : jT} {M : jM} : jw x (t ++ u) M = jw x t M ++ jw x u M := List.map_append
theorem jw_nil {x : jX} {M : jM} : jw x [] M = [] := rfl
theorem je_o {x : kX} {ad : Nat → Nat} {M : jM} {ci q n : Nat} {fs : List Value} (h : ci < 20) (hf : jfs ad M ci q = fs) : jent (kj x ad) M (q, ci, n) = .inr (ci, fs) := by rw [jent_o h]; exact congrArg (fun z => Sum.inr (ci, z)) hf
theorem je_20 {x : kX} {ad : Nat → Nat} {M : jM} {q n : Nat} {f : Nat → Int32} (hf : M.1 q = f) : jent (kj x ad) M (q, 20, n) = .inl (x.2.2.1 20, n, .inl f) := by rw [jent_i (by decide) (by decide), hf]; rfl
theorem je_21 {x : kX} {ad : Nat → Nat} {M : jM} {q n : Nat} {f : Nat → Int32} (hf : M.1 q = f) : jent (kj x ad) M (q, 21, n) = .inl (x.2.2.1 21, n, .inl f) := by rw [jent_i (by decide) (by decide), hf]; rfl
theorem je_22 {x : kX} {ad : Nat → Nat} {M : jM} {q n : Nat} {f : Nat → Int32} (hf : M.1 q = f) : jent (kj x ad) M (q, 22, n) = .inl (x.2.2.1 22, n, .inl f) := by rw [jent_i (by decide) (by decide), hf]; rfl
theorem je_23 {x : kX} {ad : Nat → Nat} {M : jM} {q n : Nat} {f : Nat → Int64} (hf : M.2 q = f) : jent (kj x ad) M (q, 23, n) = .inl (x.2.2.1 23, n, .inr (.inl f)) := by rw [jent_l, hf]; rfl

def ft0 : jT := [(0, 0, 8), (1, 20, 25), (2, 20, 25), (3, 20, 12), (4, 20, 9), (5, 20, 9), (6, 20, 6), (7, 20, 25)]
def ft1 : jT := [(0, 1, 10), (1, 20, 54), (2, 20, 54), (3, 23, 4), (4, 20, 54), (5, 20, 25), (6, 23, 2048)]
def ft2 : jT := [(0, 2, 6), (1, 20, 60)]
def ft3 : jT := [(0, 3, 10), (1, 20, 60), (2, 20, 60), (3, 20, 60), (4, 20, 60), (5, 20, 60), (6, 20, 60), (7, 20, 60)]
def ft4 : jT := [(0, 4, 4), (1, 3, 10), (2, 20, 60), (3, 20, 60), (4, 20, 60), (5, 20, 60), (6, 20, 60), (7, 20, 60), (8, 20, 60), (9, 7, 14), (10, 23, 26), (11, 21, 0), (12, 20, 3)]
def ft5 : jT := [(0, 5, 13), (1, 20, 25), (2, 20, 25), (3, 20, 25), (4, 23, 6), (5, 20, 6), (6, 20, 54), (7, 20, 200), (8, 20, 9)]
def ft6 : jT := [(0, 6, 5), (1, 5, 13), (2, 20, 25), (3, 20, 25), (4, 20, 25), (5, 23, 6), (6, 20, 6), (7, 20, 54), (8, 20, 200), (9, 20, 9), (10, 7, 14), (11, 23, 26), (12, 21, 0)]
def ft7 : jT := [(0, 7, 14), (1, 23, 26), (2, 21, 0)]
def ft8 : jT := [(0, 8, 7), (1, 20, 25), (2, 20, 3), (3, 20, 54), (4, 20, 9), (5, 23, 25), (6, 1, 10), (7, 20, 54), (8, 20, 54), (9, 23, 4), (10, 20, 54), (11, 20, 25), (12, 23, 2048)]
def ft9 : jT := [(0, 9, 4), (1, 23, 60)]
def ft10 : jT := [(0, 10, 3), (1, 5, 13), (2, 20, 25), (3, 20, 25), (4, 20, 25), (5, 23, 6), (6, 20, 6), (7, 20, 54), (8, 20, 200), (9, 20, 9), (10, 20, 25), (11, 3, 10), (12, 20, 60), (13, 20, 60), (14, 20, 60), (15, 20, 60), (16, 20, 60), (17, 20, 60), (18, 20, 60)]
def ft11 : jT := [(0, 11, 17), (1, 24, 4), (2, 21, 900), (3, 6, 5), (4, 5, 13), (5, 20, 25), (6, 20, 25), (7, 20, 25), (8, 23, 6), (9, 20, 6), (10, 20, 54), (11, 20, 200), (12, 20, 9), (13, 7, 14), (14, 23, 26), (15, 21, 0), (16, 4, 4), (17, 3, 10), (18, 20, 60), (19, 20, 60), (20, 20, 60), (21, 20, 60), (22, 20, 60), (23, 20, 60), (24, 20, 60), (25, 7, 14), (26, 23, 26), (27, 21, 0), (28, 20, 3), (29, 10, 3), (30, 5, 13), (31, 20, 25), (32, 20, 25), (33, 20, 25), (34, 23, 6), (35, 20, 6), (36, 20, 54), (37, 20, 200), (38, 20, 9), (39, 20, 25), (40, 3, 10), (41, 20, 60), (42, 20, 60), (43, 20, 60), (44, 20, 60), (45, 20, 60), (46, 20, 60), (47, 20, 60), (48, 25, 3), (49, 8, 7), (50, 20, 25), (51, 20, 3), (52, 20, 54), (53, 20, 9), (54, 23, 25), (55, 1, 10), (56, 20, 54), (57, 20, 54), (58, 23, 4), (59, 20, 54), (60, 20, 25), (61, 23, 2048), (62, 0, 8), (63, 20, 25), (64, 20, 25), (65, 20, 12), (66, 20, 9), (67, 20, 9), (68, 20, 6), (69, 20, 25), (70, 2, 6), (71, 20, 60), (72, 20, 54), (73, 20, 25), (74, 20, 3), (75, 23, 2), (76, 20, 2)]
def ft12 : jT := [(0, 12, 54), (1, 20, 4), (2, 20, 4), (3, 23, 240), (4, 21, 900), (5, 20, 2060), (6, 23, 30), (7, 22, 6), (8, 20, 54), (9, 20, 25), (10, 20, 25), (11, 20, 54), (12, 20, 12), (13, 20, 12), (14, 20, 25), (15, 22, 4096), (16, 20, 3), (17, 20, 25), (18, 20, 16), (19, 20, 16)]
set_option maxRecDepth 20000 in
set_option maxHeartbeats 1000000 in
theorem c_X0 {x : kX} {d h0 p : Nat} {M : jM} (hz : ∀ i, i < 8 → M.1 (p + i) = (fun _ => 0) ∧ M.2 (p + i) = (fun _ => 0)) : KC x mX0_init (d + 1) 7 111 [.ref h0] [(h0, .inr (0, zX0))] (fun w r => r = none ∧ kI x p h0 ft0 M w) := by
  refine KC.of (by decide +kernel) (Nat.le_of_ble_eq_true rfl) ?_
  refine kw_ls (ls' := [(0, .ref h0)]) rfl ?_
  refine kw_ws (ws' := [(h0, .inr (0, [.null, .null, .null, .int 0, .null, .null, .null, .null]))]) rfl ?_
  refine kw_aload_n (pc := 0) (j := 0) dX0_init_0 rfl rfl ?_
  refine kw_obj (pc := 1) dX0_init_1 ob_X0 ob_i ob_c (Nat.le_of_ble_eq_true rfl) ?_
  refine kw_aload_n (pc := 4) (j := 0) dX0_init_4 rfl rfl ?_
  refine kw_bipush (pc := 5) (v := 25) dX0_init_5 rfl ?_
  refine kw_newI (pc := 7) (N := 25) dX0_init_7 (by decide) (by decide) (by decide) (Nat.le_of_ble_eq_true rfl) (Nat.le_of_ble_eq_true rfl) aw_I (fun q0 => ?_)
  refine kw_ws (ws' := [(h0, .inr (0, [.null, .null, .null, .int 0, .null, .null, .null, .null])), (q0, .inl (x.2.2.1 20, 25, .inl (fun _ => 0)))]) (by simp only [List.append_assoc, List.cons_append, List.nil_append]) ?_
  refine kw_putF (pc := 9) (fs' := [.ref q0, .null, .null, .int 0, .null, .null, .null, .null]) dX0_init_9 fl_X0_9 kf_0_0 rfl rfl rfl (Nat.le_of_ble_eq_true rfl) rfl ?_
  refine kw_aload_n (pc := 12) (j := 0) dX0_init_12 rfl rfl ?_
  refine kw_bipush (pc := 13) (v := 25) dX0_init_13 rfl ?_
  refine kw_newI (pc := 15) (N := 25) dX0_init_15 (by decide) (by decide) (by decide) (Nat.le_of_ble_eq_true rfl) (Nat.le_of_ble_eq_true rfl) aw_I (fun q1 => ?_)
  refine kw_ws (ws' := [(h0, .inr (0, [.ref q0, .null, .null, .int 0, .null, .null, .null, .null])), (q0, .inl (x.2.2.1 20, 25, .inl (fun _ => 0))), (q1, .inl (x.2.2.1 20, 25, .inl (fun _ => 0)))]) (by simp only [List.append_assoc, List.cons_append, List.nil_append]) ?_
  refine kw_putF (pc := 17) (fs' := [.ref q0, .ref q1, .null, .int 0, .null, .null, .null, .null]) dX0_init_17 fl_X0_15 kf_0_1 rfl rfl rfl (Nat.le_of_ble_eq_true rfl) rfl ?_
  refine kw_aload_n (pc := 20) (j := 0) dX0_init_20 rfl rfl ?_
  refine kw_bipush (pc := 21) (v := 12) dX0_init_21 rfl ?_
  refine kw_newI (pc := 23) (N := 12) dX0_init_23 (by decide) (by decide) (by decide) (Nat.le_of_ble_eq_true rfl) (Nat.le_of_ble_eq_true rfl) aw_I (fun q2 => ?_)
  refine kw_ws (ws' := [(h0, .inr (0, [.ref q0, .ref q1, .null, .int 0, .null, .null, .null, .null])), (q0, .inl (x.2.2.1 20, 25, .inl (fun _ => 0))), (q1, .inl (x.2.2.1 20, 25, .inl (fun _ => 0))), (q2, .inl (x.2.2.1 20, 12, .inl (fun _ => 0)))]) (by simp only [List.append_assoc, List.cons_append, List.nil_append]) ?_
  refine kw_putF (pc := 25) (fs' := [.ref q0, .ref q1, .ref q2, .int 0, .null, .null, .null, .null]) dX0_init_25 fl_X0_18 kf_0_2 rfl rfl rfl (Nat.le_of_ble_eq_true rfl) rfl ?_
  refine kw_aload_n (pc := 28) (j := 0) dX0_init_28 rfl rfl ?_
  refine kw_bipush (pc := 29) (v := 9) dX0_init_29 rfl ?_
  refine kw_newI (pc := 31) (N := 9) dX0_init_31 (by decide) (by decide) (by decide) (Nat.le_of_ble_eq_true rfl) (Nat.le_of_ble_eq_true rfl) aw_I (fun q3 => ?_)
  refine kw_ws (ws' := [(h0, .inr (0, [.ref q0, .ref q1, .ref q2, .int 0, .null, .null, .null, .null])), (q0, .inl (x.2.2.1 20, 25, .inl (fun _ => 0))), (q1, .inl (x.2.2.1 20, 25, .inl (fun _ => 0))), (q2, .inl (x.2.2.1 20, 12, .inl (fun _ => 0))), (q3, .inl (x.2.2.1 20, 9, .inl (fun _ => 0)))]) (by simp only [List.append_assoc, List.cons_append, List.nil_append]) ?_
  refine kw_putF (pc := 33) (fs' := [.ref q0, .ref q1, .ref q2, .int 0, .ref q3, .null, .null, .null]) dX0_init_33 fl_X0_21 kf_0_4 rfl rfl rfl (Nat.le_of_ble_eq_true rfl) rfl ?_
  refine kw_aload_n (pc := 36) (j := 0) dX0_init_36 rfl rfl ?_
  refine kw_bipush (pc := 37) (v := 9) dX0_init_37 rfl ?_
  refine kw_newI (pc := 39) (N := 9) dX0_init_39 (by decide) (by decide) (by decide) (Nat.le_of_ble_eq_true rfl) (Nat.le_of_ble_eq_true rfl) aw_I (fun q4 => ?_)
  refine kw_ws (ws' := [(h0, .inr (0, [.ref q0, .ref q1, .ref q2, .int 0, .ref q3, .null, .null, .null])), (q0, .inl (x.2.2.1 20, 25, .inl (fun _ => 0))), (q1, .inl (x.2.2.1 20, 25, .inl (fun _ => 0))), (q2, .inl (x.2.2.1 20, 12, .inl (fun _ => 0))), (q3, .inl (x.2.2.1 20, 9, .inl (fun _ => 0))), (q4, .inl (x.2.2.1 20, 9, .inl (fun _ => 0)))]) (by simp only [List.append_assoc, List.cons_append, List.nil_append]) ?_
  refine kw_putF (pc := 41) (fs' := [.ref q0, .ref q1, .ref q2, .int 0, .ref q3, .ref q4, .null, .null]) dX0_init_41 fl_X0_24 kf_0_5 rfl rfl rfl (Nat.le_of_ble_eq_true rfl) rfl ?_
  refine kw_aload_n (pc := 44) (j := 0) dX0_init_44 rfl rfl ?_
  refine kw_bipush (pc := 45) (v := 6) dX0_init_45 rfl ?_
  refine kw_newI (pc := 47) (N := 6) dX0_init_47 (by decide) (by decide) (by decide) (Nat.le_of_ble_eq_true rfl) (Nat.le_of_ble_eq_true rfl) aw_I (fun q5 => ?_)
  refine kw_ws (ws' := [(h0, .inr (0, [.ref q0, .ref q1, .ref q2, .int 0, .ref q3, .ref q4, .null, .null])), (q0, .inl (x.2.2.1 20, 25, .inl (fun _ => 0))), (q1, .inl (x.2.2.1 20, 25, .inl (fun _ => 0))), (q2, .inl (x.2.2.1 20, 12, .inl (fun _ => 0))), (q3, .inl (x.2.2.1 20, 9, .inl (fun _ => 0))), (q4, .inl (x.2.2.1 20, 9, .inl (fun _ => 0))), (q5, .inl (x.2.2.1 20, 6, .inl (fun _ => 0)))]) (by simp only [List.append_assoc, List.cons_append, List.nil_append]) ?_
  refine kw_putF (pc := 49) (fs' := [.ref q0, .ref q1, .ref q2, .int 0, .ref q3, .ref q4, .ref q5, .null]) dX0_init_49 fl_X0_27 kf_0_6 rfl rfl rfl (Nat.le_of_ble_eq_true rfl) rfl ?_
  refine kw_aload_n (pc := 52) (j := 0) dX0_init_52 rfl rfl ?_
  refine kw_bipush (pc := 53) (v := 25) dX0_init_53 rfl ?_
  refine kw_newI (pc := 55) (N := 25) dX0_init_55 (by decide) (by decide) (by decide) (Nat.le_of_ble_eq_true rfl) (Nat.le_of_ble_eq_true rfl) aw_I (fun q6 => ?_)
  refine kw_ws (ws' := [(h0, .inr (0, [.ref q0, .ref q1, .ref q2, .int 0, .ref q3, .ref q4, .ref q5, .null])), (q0, .inl (x.2.2.1 20, 25, .inl (fun _ => 0))), (q1, .inl (x.2.2.1 20, 25, .inl (fun _ => 0))), (q2, .inl (x.2.2.1 20, 12, .inl (fun _ => 0))), (q3, .inl (x.2.2.1 20, 9, .inl (fun _ => 0))), (q4, .inl (x.2.2.1 20, 9, .inl (fun _ => 0))), (q5, .inl (x.2.2.1 20, 6, .inl (fun _ => 0))), (q6, .inl (x.2.2.1 20, 25, .inl (fun _ => 0)))]) (by simp only [List.append_assoc, List.cons_append, List.nil_append]) ?_
  refine kw_putF (pc := 57) (fs' := [.ref q0, .ref q1, .ref q2, .int 0, .ref q3, .ref q4, .ref q5, .ref q6]) dX0_init_57 fl_X0_30 kf_0_7 rfl rfl rfl (Nat.le_of_ble_eq_true rfl) rfl ?_
  refine kw_vret (pc := 60) dX0_init_60 rfl rfl rfl ⟨rfl, ?_⟩
  obtain ⟨ad, hA⟩ : ∃ ad : Nat → Nat, ∀ i, ad (p + i) = if i < 1 then h0 else if i < 2 then q0 else if i < 3 then q1 else if i < 4 then q2 else if i < 5 then q3 else if i < 6 then q4 else if i < 7 then q5 else q6 := ⟨fun k => if (k - p) < 1 then h0 else if (k - p) < 2 then q0 else if (k - p) < 3 then q1 else if (k - p) < 4 then q2 else if (k - p) < 5 then q3 else if (k - p) < 6 then q4 else if (k - p) < 7 then q5 else q6, fun i => by simp only [Nat.add_sub_cancel_left]⟩
  have e0 : ad (p + 0) = h0 := by rw [hA]; rfl
  have e1 : ad (p + 1) = q0 := by rw [hA]; rfl
  have e2 : ad (p + 2) = q1 := by rw [hA]; rfl
  have e3 : ad (p + 3) = q2 := by rw [hA]; rfl
  have e4 : ad (p + 4) = q3 := by rw [hA]; rfl
  have e5 : ad (p + 5) = q4 := by rw [hA]; rfl
  have e6 : ad (p + 6) = q5 := by rw [hA]; rfl
  have e7 : ad (p + 7) = q6 := by rw [hA]; rfl
  have f0 : jfs ad M 0 (p + 0) = [.ref q0, .ref q1, .ref q2, .int 0, .ref q3, .ref q4, .ref q5, .ref q6] := by
    show ([.ref (ad (p + 1)), .ref (ad (p + 2)), .ref (ad (p + 3)), .int (M.1 p 3), .ref (ad (p + 4)), .ref (ad (p + 5)), .ref (ad (p + 6)), .ref (ad (p + 7))] : List Value) = _
    simp only [show M.1 p = _ from (hz 0 (by decide)).1, show M.2 p = _ from (hz 0 (by decide)).2, show ad (p + 1) = _ from e1, show ad (p + 2) = _ from e2, show ad (p + 3) = _ from e3, show ad (p + 4) = _ from e4, show ad (p + 5) = _ from e5, show ad (p + 6) = _ from e6, show ad (p + 7) = _ from e7]
  refine ⟨ad, e0, ?_⟩
  have ht : jsh p ft0 = (p + 0, 0, 8) :: ((p + 1, 20, 25) :: ((p + 2, 20, 25) :: ((p + 3, 20, 12) :: ((p + 4, 20, 9) :: ((p + 5, 20, 9) :: ((p + 6, 20, 6) :: ((p + 7, 20, 25) :: ([])))))))) := rfl
  rw [ht]
  rw [jw_cons, jw_cons, jw_cons, jw_cons, jw_cons, jw_cons, jw_cons, jw_cons, jw_nil]
  rw [je_o (by decide) f0, je_20 (hz 1 (by decide)).1, je_20 (hz 2 (by decide)).1, je_20 (hz 3 (by decide)).1, je_20 (hz 4 (by decide)).1, je_20 (hz 5 (by decide)).1, je_20 (hz 6 (by decide)).1, je_20 (hz 7 (by decide)).1]
  show _ = ((ad (p + 0), .inr (0, [.ref q0, .ref q1, .ref q2, .int 0, .ref q3, .ref q4, .ref q5, .ref q6])) :: ((ad (p + 1), .inl (x.2.2.1 20, 25, .inl (fun _ => 0))) :: ((ad (p + 2), .inl (x.2.2.1 20, 25, .inl (fun _ => 0))) :: ((ad (p + 3), .inl (x.2.2.1 20, 12, .inl (fun _ => 0))) :: ((ad (p + 4), .inl (x.2.2.1 20, 9, .inl (fun _ => 0))) :: ((ad (p + 5), .inl (x.2.2.1 20, 9, .inl (fun _ => 0))) :: ((ad (p + 6), .inl (x.2.2.1 20, 6, .inl (fun _ => 0))) :: ((ad (p + 7), .inl (x.2.2.1 20, 25, .inl (fun _ => 0))) :: ([])))))))) : va_W)
  rw [e0, e1, e2, e3, e4, e5, e6, e7]
set_option maxRecDepth 20000 in
set_option maxHeartbeats 1000000 in
theorem c_X1 {x : kX} {d h0 p : Nat} {M : jM} (hz : ∀ i, i < 7 → M.1 (p + i) = (fun _ => 0) ∧ M.2 (p + i) = (fun _ => 0)) : KC x mX1_init (d + 1) 6 2239 [.ref h0] [(h0, .inr (1, zX1))] (fun w r => r = none ∧ kI x p h0 ft1 M w) := by
  refine KC.of (by decide +kernel) (Nat.le_of_ble_eq_true rfl) ?_
  refine kw_ls (ls' := [(0, .ref h0)]) rfl ?_
  refine kw_ws (ws' := [(h0, .inr (1, [.int 0, .null, .null, .int 0, .null, .int 0, .long 0, .null, .null, .null]))]) rfl ?_
  refine kw_aload_n (pc := 0) (j := 0) dX1_init_0 rfl rfl ?_
  refine kw_obj (pc := 1) dX1_init_1 ob_X1 ob_i ob_c (Nat.le_of_ble_eq_true rfl) ?_
  refine kw_aload_n (pc := 4) (j := 0) dX1_init_4 rfl rfl ?_
  refine kw_bipush (pc := 5) (v := 54) dX1_init_5 rfl ?_
  refine kw_newI (pc := 7) (N := 54) dX1_init_7 (by decide) (by decide) (by decide) (Nat.le_of_ble_eq_true rfl) (Nat.le_of_ble_eq_true rfl) aw_I (fun q0 => ?_)
  refine kw_ws (ws' := [(h0, .inr (1, [.int 0, .null, .null, .int 0, .null, .int 0, .long 0, .null, .null, .null])), (q0, .inl (x.2.2.1 20, 54, .inl (fun _ => 0)))]) (by simp only [List.append_assoc, List.cons_append, List.nil_append]) ?_
  refine kw_putF (pc := 9) (fs' := [.int 0, .ref q0, .null, .int 0, .null, .int 0, .long 0, .null, .null, .null]) dX1_init_9 fl_X1_9 kf_1_1 rfl rfl rfl (Nat.le_of_ble_eq_true rfl) rfl ?_
  refine kw_aload_n (pc := 12) (j := 0) dX1_init_12 rfl rfl ?_
  refine kw_bipush (pc := 13) (v := 54) dX1_init_13 rfl ?_
  refine kw_newI (pc := 15) (N := 54) dX1_init_15 (by decide) (by decide) (by decide) (Nat.le_of_ble_eq_true rfl) (Nat.le_of_ble_eq_true rfl) aw_I (fun q1 => ?_)
  refine kw_ws (ws' := [(h0, .inr (1, [.int 0, .ref q0, .null, .int 0, .null, .int 0, .long 0, .null, .null, .null])), (q0, .inl (x.2.2.1 20, 54, .inl (fun _ => 0))), (q1, .inl (x.2.2.1 20, 54, .inl (fun _ => 0)))]) (by simp only [List.append_assoc, List.cons_append, List.nil_append]) ?_
  refine kw_putF (pc := 17) (fs' := [.int 0, .ref q0, .ref q1, .int 0, .null, .int 0, .long 0, .null, .null, .null]) dX1_init_17 fl_X1_15 kf_1_2 rfl rfl rfl (Nat.le_of_ble_eq_true rfl) rfl ?_
  refine kw_aload_n (pc := 20) (j := 0) dX1_init_20 rfl rfl ?_
  refine kw_iconst (pc := 21) (v := 4) dX1_init_21 rfl ?_
  refine kw_newL (pc := 22) (N := 4) dX1_init_22 (by decide) (by decide) (by decide) (Nat.le_of_ble_eq_true rfl) (Nat.le_of_ble_eq_true rfl) aw_L (fun q2 => ?_)
  refine kw_ws (ws' := [(h0, .inr (1, [.int 0, .ref q0, .ref q1, .int 0, .null, .int 0, .long 0, .null, .null, .null])), (q0, .inl (x.2.2.1 20, 54, .inl (fun _ => 0))), (q1, .inl (x.2.2.1 20, 54, .inl (fun _ => 0))), (q2, .inl (x.2.2.1 23, 4, .inr (.inl (fun _ => 0))))]) (by simp only [List.append_assoc, List.cons_append, List.nil_append]) ?_
  refine kw_putF (pc := 24) (fs' := [.int 0, .ref q0, .ref q1, .int 0, .ref q2, .int 0, .long 0, .null, .null, .null]) dX1_init_24 fl_X1_18 kf_1_4 rfl rfl rfl (Nat.le_of_ble_eq_true rfl) rfl ?_
  refine kw_aload_n (pc := 27) (j := 0) dX1_init_27 rfl rfl ?_
  refine kw_bipush (pc := 28) (v := 54) dX1_init_28 rfl ?_
  refine kw_newI (pc := 30) (N := 54) dX1_init_30 (by decide) (by decide) (by decide) (Nat.le_of_ble_eq_true rfl) (Nat.le_of_ble_eq_true rfl) aw_I (fun q3 => ?_)
  refine kw_ws (ws' := [(h0, .inr (1, [.int 0, .ref q0, .ref q1, .int 0, .ref q2, .int 0, .long 0, .null, .null, .null])), (q0, .inl (x.2.2.1 20, 54, .inl (fun _ => 0))), (q1, .inl (x.2.2.1 20, 54, .inl (fun _ => 0))), (q2, .inl (x.2.2.1 23, 4, .inr (.inl (fun _ => 0)))), (q3, .inl (x.2.2.1 20, 54, .inl (fun _ => 0)))]) (by simp only [List.append_assoc, List.cons_append, List.nil_append]) ?_
  refine kw_putF (pc := 32) (fs' := [.int 0, .ref q0, .ref q1, .int 0, .ref q2, .int 0, .long 0, .ref q3, .null, .null]) dX1_init_32 fl_X1_22 kf_1_7 rfl rfl rfl (Nat.le_of_ble_eq_true rfl) rfl ?_
  refine kw_aload_n (pc := 35) (j := 0) dX1_init_35 rfl rfl ?_
  refine kw_bipush (pc := 36) (v := 25) dX1_init_36 rfl ?_
  refine kw_newI (pc := 38) (N := 25) dX1_init_38 (by decide) (by decide) (by decide) (Nat.le_of_ble_eq_true rfl) (Nat.le_of_ble_eq_true rfl) aw_I (fun q4 => ?_)
  refine kw_ws (ws' := [(h0, .inr (1, [.int 0, .ref q0, .ref q1, .int 0, .ref q2, .int 0, .long 0, .ref q3, .null, .null])), (q0, .inl (x.2.2.1 20, 54, .inl (fun _ => 0))), (q1, .inl (x.2.2.1 20, 54, .inl (fun _ => 0))), (q2, .inl (x.2.2.1 23, 4, .inr (.inl (fun _ => 0)))), (q3, .inl (x.2.2.1 20, 54, .inl (fun _ => 0))), (q4, .inl (x.2.2.1 20, 25, .inl (fun _ => 0)))]) (by simp only [List.append_assoc, List.cons_append, List.nil_append]) ?_
  refine kw_putF (pc := 40) (fs' := [.int 0, .ref q0, .ref q1, .int 0, .ref q2, .int 0, .long 0, .ref q3, .ref q4, .null]) dX1_init_40 fl_X1_25 kf_1_8 rfl rfl rfl (Nat.le_of_ble_eq_true rfl) rfl ?_
  refine kw_aload_n (pc := 43) (j := 0) dX1_init_43 rfl rfl ?_
  refine kw_sipush (pc := 44) (v := 2048) dX1_init_44 rfl ?_
  refine kw_newL (pc := 47) (N := 2048) dX1_init_47 (by decide) (by decide) (by decide) (Nat.le_of_ble_eq_true rfl) (Nat.le_of_ble_eq_true rfl) aw_L (fun q5 => ?_)
  refine kw_ws (ws' := [(h0, .inr (1, [.int 0, .ref q0, .ref q1, .int 0, .ref q2, .int 0, .long 0, .ref q3, .ref q4, .null])), (q0, .inl (x.2.2.1 20, 54, .inl (fun _ => 0))), (q1, .inl (x.2.2.1 20, 54, .inl (fun _ => 0))), (q2, .inl (x.2.2.1 23, 4, .inr (.inl (fun _ => 0)))), (q3, .inl (x.2.2.1 20, 54, .inl (fun _ => 0))), (q4, .inl (x.2.2.1 20, 25, .inl (fun _ => 0))), (q5, .inl (x.2.2.1 23, 2048, .inr (.inl (fun _ => 0))))]) (by simp only [List.append_assoc, List.cons_append, List.nil_append]) ?_
  refine kw_putF (pc := 49) (fs' := [.int 0, .ref q0, .ref q1, .int 0, .ref q2, .int 0, .long 0, .ref q3, .ref q4, .ref q5]) dX1_init_49 fl_X1_28 kf_1_9 rfl rfl rfl (Nat.le_of_ble_eq_true rfl) rfl ?_
  refine kw_vret (pc := 52) dX1_init_52 rfl rfl rfl ⟨rfl, ?_⟩
  obtain ⟨ad, hA⟩ : ∃ ad : Nat → Nat, ∀ i, ad (p + i) = if i < 1 then h0 else if i < 2 then q0 else if i < 3 then q1 else if i < 4 then q2 else if i < 5 then q3 else if i < 6 then q4 else q5 := ⟨fun k => if (k - p) < 1 then h0 else if (k - p) < 2 then q0 else if (k - p) < 3 then q1 else if (k - p) < 4 then q2 else if (k - p) < 5 then q3 else if (k - p) < 6 then q4 else q5, fun i => by simp only [Nat.add_sub_cancel_left]⟩
  have e0 : ad (p + 0) = h0 := by rw [hA]; rfl
  have e1 : ad (p + 1) = q0 := by rw [hA]; rfl
  have e2 : ad (p + 2) = q1 := by rw [hA]; rfl
  have e3 : ad (p + 3) = q2 := by rw [hA]; rfl
  have e4 : ad (p + 4) = q3 := by rw [hA]; rfl
  have e5 : ad (p + 5) = q4 := by rw [hA]; rfl
  have e6 : ad (p + 6) = q5 := by rw [hA]; rfl
  have f0 : jfs ad M 1 (p + 0) = [.int 0, .ref q0, .ref q1, .int 0, .ref q2, .int 0, .long 0, .ref q3, .ref q4, .ref q5] := by
    show ([.int (M.1 p 0), .ref (ad (p + 1)), .ref (ad (p + 2)), .int (M.1 p 3), .ref (ad (p + 3)), .int (M.1 p 5), .long (M.2 p 6), .ref (ad (p + 4)), .ref (ad (p + 5)), .ref (ad (p + 6))] : List Value) = _
    simp only [show M.1 p = _ from (hz 0 (by decide)).1, show M.2 p = _ from (hz 0 (by decide)).2, show ad (p + 1) = _ from e1, show ad (p + 2) = _ from e2, show ad (p + 3) = _ from e3, show ad (p + 4) = _ from e4, show ad (p + 5) = _ from e5, show ad (p + 6) = _ from e6]
  refine ⟨ad, e0, ?_⟩
  have ht : jsh p ft1 = (p + 0, 1, 10) :: ((p + 1, 20, 54) :: ((p + 2, 20, 54) :: ((p + 3, 23, 4) :: ((p + 4, 20, 54) :: ((p + 5, 20, 25) :: ((p + 6, 23, 2048) :: ([]))))))) := rfl
  rw [ht]
  rw [jw_cons, jw_cons, jw_cons, jw_cons, jw_cons, jw_cons, jw_cons, jw_nil]
  rw [je_o (by decide) f0, je_20 (hz 1 (by decide)).1, je_20 (hz 2 (by decide)).1, je_23 (hz 3 (by decide)).2, je_20 (hz 4 (by decide)).1, je_20 (hz 5 (by decide)).1, je_23 (hz 6 (by decide)).2]
  show _ = ((ad (p + 0), .inr (1, [.int 0, .ref q0, .ref q1, .int 0, .ref q2, .int 0, .long 0, .ref q3, .ref q4, .ref q5])) :: ((ad (p + 1), .inl (x.2.2.1 20, 54, .inl (fun _ => 0))) :: ((ad (p + 2), .inl (x.2.2.1 20, 54, .inl (fun _ => 0))) :: ((ad (p + 3), .inl (x.2.2.1 23, 4, .inr (.inl (fun _ => 0)))) :: ((ad (p + 4), .inl (x.2.2.1 20, 54, .inl (fun _ => 0))) :: ((ad (p + 5), .inl (x.2.2.1 20, 25, .inl (fun _ => 0))) :: ((ad (p + 6), .inl (x.2.2.1 23, 2048, .inr (.inl (fun _ => 0)))) :: ([]))))))) : va_W)
  rw [e0, e1, e2, e3, e4, e5, e6]
set_option maxRecDepth 20000 in
set_option maxHeartbeats 1000000 in
theorem c_X2 {x : kX} {d h0 p : Nat} {M : jM} (hz : ∀ i, i < 2 → M.1 (p + i) = (fun _ => 0) ∧ M.2 (p + i) = (fun _ => 0)) : KC x mX2_init (d + 1) 1 60 [.ref h0] [(h0, .inr (2, zX2))] (fun w r => r = none ∧ kI x p h0 ft2 M w) := by
  refine KC.of (by decide +kernel) (Nat.le_of_ble_eq_true rfl) ?_
  refine kw_ls (ls' := [(0, .ref h0)]) rfl ?_
  refine kw_ws (ws' := [(h0, .inr (2, [.int 0, .int 0, .int 0, .int 0, .null, .int 0]))]) rfl ?_
  refine kw_aload_n (pc := 0) (j := 0) dX2_init_0 rfl rfl ?_
  refine kw_obj (pc := 1) dX2_init_1 ob_X2 ob_i ob_c (Nat.le_of_ble_eq_true rfl) ?_
  refine kw_aload_n (pc := 4) (j := 0) dX2_init_4 rfl rfl ?_
  refine kw_bipush (pc := 5) (v := 60) dX2_init_5 rfl ?_
  refine kw_newI (pc := 7) (N := 60) dX2_init_7 (by decide) (by decide) (by decide) (Nat.le_of_ble_eq_true rfl) (Nat.le_of_ble_eq_true rfl) aw_I (fun q0 => ?_)
  refine kw_ws (ws' := [(h0, .inr (2, [.int 0, .int 0, .int 0, .int 0, .null, .int 0])), (q0, .inl (x.2.2.1 20, 60, .inl (fun _ => 0)))]) (by simp only [List.append_assoc, List.cons_append, List.nil_append]) ?_
  refine kw_putF (pc := 9) (fs' := [.int 0, .int 0, .int 0, .int 0, .ref q0, .int 0]) dX2_init_9 fl_X2_9 kf_2_4 rfl rfl rfl (Nat.le_of_ble_eq_true rfl) rfl ?_
  refine kw_vret (pc := 12) dX2_init_12 rfl rfl rfl ⟨rfl, ?_⟩
  obtain ⟨ad, hA⟩ : ∃ ad : Nat → Nat, ∀ i, ad (p + i) = if i < 1 then h0 else q0 := ⟨fun k => if (k - p) < 1 then h0 else q0, fun i => by simp only [Nat.add_sub_cancel_left]⟩
  have e0 : ad (p + 0) = h0 := by rw [hA]; rfl
  have e1 : ad (p + 1) = q0 := by rw [hA]; rfl
  have f0 : jfs ad M 2 (p + 0) = [.int 0, .int 0, .int 0, .int 0, .ref q0, .int 0] := by
    show ([.int (M.1 p 0), .int (M.1 p 1), .int (M.1 p 2), .int (M.1 p 3), .ref (ad (p + 1)), .int (M.1 p 5)] : List Value) = _
    simp only [show M.1 p = _ from (hz 0 (by decide)).1, show M.2 p = _ from (hz 0 (by decide)).2, show ad (p + 1) = _ from e1]
  refine ⟨ad, e0, ?_⟩
  have ht : jsh p ft2 = (p + 0, 2, 6) :: ((p + 1, 20, 60) :: ([])) := rfl
  rw [ht]
  rw [jw_cons, jw_cons, jw_nil]
  rw [je_o (by decide) f0, je_20 (hz 1 (by decide)).1]
  show _ = ((ad (p + 0), .inr (2, [.int 0, .int 0, .int 0, .int 0, .ref q0, .int 0])) :: ((ad (p + 1), .inl (x.2.2.1 20, 60, .inl (fun _ => 0))) :: ([])) : va_W)
  rw [e0, e1]
set_option maxRecDepth 20000 in
set_option maxHeartbeats 1000000 in
theorem c_X3 {x : kX} {d h0 p : Nat} {M : jM} (hz : ∀ i, i < 8 → M.1 (p + i) = (fun _ => 0) ∧ M.2 (p + i) = (fun _ => 0)) : KC x mX3_init (d + 1) 7 420 [.ref h0] [(h0, .inr (3, zX3))] (fun w r => r = none ∧ kI x p h0 ft3 M w) := by
  refine KC.of (by decide +kernel) (Nat.le_of_ble_eq_true rfl) ?_
  refine kw_ls (ls' := [(0, .ref h0)]) rfl ?_
  refine kw_ws (ws' := [(h0, .inr (3, [.int 0, .int 0, .int 0, .null, .null, .null, .null, .null, .null, .null]))]) rfl ?_
  refine kw_aload_n (pc := 0) (j := 0) dX3_init_0 rfl rfl ?_
  refine kw_obj (pc := 1) dX3_init_1 ob_X3 ob_i ob_c (Nat.le_of_ble_eq_true rfl) ?_
  refine kw_aload_n (pc := 4) (j := 0) dX3_init_4 rfl rfl ?_
  refine kw_bipush (pc := 5) (v := 60) dX3_init_5 rfl ?_
  refine kw_newI (pc := 7) (N := 60) dX3_init_7 (by decide) (by decide) (by decide) (Nat.le_of_ble_eq_true rfl) (Nat.le_of_ble_eq_true rfl) aw_I (fun q0 => ?_)
  refine kw_ws (ws' := [(h0, .inr (3, [.int 0, .int 0, .int 0, .null, .null, .null, .null, .null, .null, .null])), (q0, .inl (x.2.2.1 20, 60, .inl (fun _ => 0)))]) (by simp only [List.append_assoc, List.cons_append, List.nil_append]) ?_
  refine kw_putF (pc := 9) (fs' := [.int 0, .int 0, .int 0, .ref q0, .null, .null, .null, .null, .null, .null]) dX3_init_9 fl_X3_9 kf_3_3 rfl rfl rfl (Nat.le_of_ble_eq_true rfl) rfl ?_
  refine kw_aload_n (pc := 12) (j := 0) dX3_init_12 rfl rfl ?_
  refine kw_bipush (pc := 13) (v := 60) dX3_init_13 rfl ?_
  refine kw_newI (pc := 15) (N := 60) dX3_init_15 (by decide) (by decide) (by decide) (Nat.le_of_ble_eq_true rfl) (Nat.le_of_ble_eq_true rfl) aw_I (fun q1 => ?_)
  refine kw_ws (ws' := [(h0, .inr (3, [.int 0, .int 0, .int 0, .ref q0, .null, .null, .null, .null, .null, .null])), (q0, .inl (x.2.2.1 20, 60, .inl (fun _ => 0))), (q1, .inl (x.2.2.1 20, 60, .inl (fun _ => 0)))]) (by simp only [List.append_assoc, List.cons_append, List.nil_append]) ?_
  refine kw_putF (pc := 17) (fs' := [.int 0, .int 0, .int 0, .ref q0, .ref q1, .null, .null, .null, .null, .null]) dX3_init_17 fl_X3_15 kf_3_4 rfl rfl rfl (Nat.le_of_ble_eq_true rfl) rfl ?_
  refine kw_aload_n (pc := 20) (j := 0) dX3_init_20 rfl rfl ?_
  refine kw_bipush (pc := 21) (v := 60) dX3_init_21 rfl ?_
  refine kw_newI (pc := 23) (N := 60) dX3_init_23 (by decide) (by decide) (by decide) (Nat.le_of_ble_eq_true rfl) (Nat.le_of_ble_eq_true rfl) aw_I (fun q2 => ?_)
  refine kw_ws (ws' := [(h0, .inr (3, [.int 0, .int 0, .int 0, .ref q0, .ref q1, .null, .null, .null, .null, .null])), (q0, .inl (x.2.2.1 20, 60, .inl (fun _ => 0))), (q1, .inl (x.2.2.1 20, 60, .inl (fun _ => 0))), (q2, .inl (x.2.2.1 20, 60, .inl (fun _ => 0)))]) (by simp only [List.append_assoc, List.cons_append, List.nil_append]) ?_
  refine kw_putF (pc := 25) (fs' := [.int 0, .int 0, .int 0, .ref q0, .ref q1, .ref q2, .null, .null, .null, .null]) dX3_init_25 fl_X3_18 kf_3_5 rfl rfl rfl (Nat.le_of_ble_eq_true rfl) rfl ?_
  refine kw_aload_n (pc := 28) (j := 0) dX3_init_28 rfl rfl ?_
  refine kw_bipush (pc := 29) (v := 60) dX3_init_29 rfl ?_
  refine kw_newI (pc := 31) (N := 60) dX3_init_31 (by decide) (by decide) (by decide) (Nat.le_of_ble_eq_true rfl) (Nat.le_of_ble_eq_true rfl) aw_I (fun q3 => ?_)
  refine kw_ws (ws' := [(h0, .inr (3, [.int 0, .int 0, .int 0, .ref q0, .ref q1, .ref q2, .null, .null, .null, .null])), (q0, .inl (x.2.2.1 20, 60, .inl (fun _ => 0))), (q1, .inl (x.2.2.1 20, 60, .inl (fun _ => 0))), (q2, .inl (x.2.2.1 20, 60, .inl (fun _ => 0))), (q3, .inl (x.2.2.1 20, 60, .inl (fun _ => 0)))]) (by simp only [List.append_assoc, List.cons_append, List.nil_append]) ?_
  refine kw_putF (pc := 33) (fs' := [.int 0, .int 0, .int 0, .ref q0, .ref q1, .ref q2, .ref q3, .null, .null, .null]) dX3_init_33 fl_X3_21 kf_3_6 rfl rfl rfl (Nat.le_of_ble_eq_true rfl) rfl ?_
  refine kw_aload_n (pc := 36) (j := 0) dX3_init_36 rfl rfl ?_
  refine kw_bipush (pc := 37) (v := 60) dX3_init_37 rfl ?_
  refine kw_newI (pc := 39) (N := 60) dX3_init_39 (by decide) (by decide) (by decide) (Nat.le_of_ble_eq_true rfl) (Nat.le_of_ble_eq_true rfl) aw_I (fun q4 => ?_)
  refine kw_ws (ws' := [(h0, .inr (3, [.int 0, .int 0, .int 0, .ref q0, .ref q1, .ref q2, .ref q3, .null, .null, .null])), (q0, .inl (x.2.2.1 20, 60, .inl (fun _ => 0))), (q1, .inl (x.2.2.1 20, 60, .inl (fun _ => 0))), (q2, .inl (x.2.2.1 20, 60, .inl (fun _ => 0))), (q3, .inl (x.2.2.1 20, 60, .inl (fun _ => 0))), (q4, .inl (x.2.2.1 20, 60, .inl (fun _ => 0)))]) (by simp only [List.append_assoc, List.cons_append, List.nil_append]) ?_
  refine kw_putF (pc := 41) (fs' := [.int 0, .int 0, .int 0, .ref q0, .ref q1, .ref q2, .ref q3, .ref q4, .null, .null]) dX3_init_41 fl_X3_24 kf_3_7 rfl rfl rfl (Nat.le_of_ble_eq_true rfl) rfl ?_
  refine kw_aload_n (pc := 44) (j := 0) dX3_init_44 rfl rfl ?_
  refine kw_bipush (pc := 45) (v := 60) dX3_init_45 rfl ?_
  refine kw_newI (pc := 47) (N := 60) dX3_init_47 (by decide) (by decide) (by decide) (Nat.le_of_ble_eq_true rfl) (Nat.le_of_ble_eq_true rfl) aw_I (fun q5 => ?_)
  refine kw_ws (ws' := [(h0, .inr (3, [.int 0, .int 0, .int 0, .ref q0, .ref q1, .ref q2, .ref q3, .ref q4, .null, .null])), (q0, .inl (x.2.2.1 20, 60, .inl (fun _ => 0))), (q1, .inl (x.2.2.1 20, 60, .inl (fun _ => 0))), (q2, .inl (x.2.2.1 20, 60, .inl (fun _ => 0))), (q3, .inl (x.2.2.1 20, 60, .inl (fun _ => 0))), (q4, .inl (x.2.2.1 20, 60, .inl (fun _ => 0))), (q5, .inl (x.2.2.1 20, 60, .inl (fun _ => 0)))]) (by simp only [List.append_assoc, List.cons_append, List.nil_append]) ?_
  refine kw_putF (pc := 49) (fs' := [.int 0, .int 0, .int 0, .ref q0, .ref q1, .ref q2, .ref q3, .ref q4, .ref q5, .null]) dX3_init_49 fl_X3_27 kf_3_8 rfl rfl rfl (Nat.le_of_ble_eq_true rfl) rfl ?_
  refine kw_aload_n (pc := 52) (j := 0) dX3_init_52 rfl rfl ?_
  refine kw_bipush (pc := 53) (v := 60) dX3_init_53 rfl ?_
  refine kw_newI (pc := 55) (N := 60) dX3_init_55 (by decide) (by decide) (by decide) (Nat.le_of_ble_eq_true rfl) (Nat.le_of_ble_eq_true rfl) aw_I (fun q6 => ?_)
  refine kw_ws (ws' := [(h0, .inr (3, [.int 0, .int 0, .int 0, .ref q0, .ref q1, .ref q2, .ref q3, .ref q4, .ref q5, .null])), (q0, .inl (x.2.2.1 20, 60, .inl (fun _ => 0))), (q1, .inl (x.2.2.1 20, 60, .inl (fun _ => 0))), (q2, .inl (x.2.2.1 20, 60, .inl (fun _ => 0))), (q3, .inl (x.2.2.1 20, 60, .inl (fun _ => 0))), (q4, .inl (x.2.2.1 20, 60, .inl (fun _ => 0))), (q5, .inl (x.2.2.1 20, 60, .inl (fun _ => 0))), (q6, .inl (x.2.2.1 20, 60, .inl (fun _ => 0)))]) (by simp only [List.append_assoc, List.cons_append, List.nil_append]) ?_
  refine kw_putF (pc := 57) (fs' := [.int 0, .int 0, .int 0, .ref q0, .ref q1, .ref q2, .ref q3, .ref q4, .ref q5, .ref q6]) dX3_init_57 fl_X3_30 kf_3_9 rfl rfl rfl (Nat.le_of_ble_eq_true rfl) rfl ?_
  refine kw_vret (pc := 60) dX3_init_60 rfl rfl rfl ⟨rfl, ?_⟩
  obtain ⟨ad, hA⟩ : ∃ ad : Nat → Nat, ∀ i, ad (p + i) = if i < 1 then h0 else if i < 2 then q0 else if i < 3 then q1 else if i < 4 then q2 else if i < 5 then q3 else if i < 6 then q4 else if i < 7 then q5 else q6 := ⟨fun k => if (k - p) < 1 then h0 else if (k - p) < 2 then q0 else if (k - p) < 3 then q1 else if (k - p) < 4 then q2 else if (k - p) < 5 then q3 else if (k - p) < 6 then q4 else if (k - p) < 7 then q5 else q6, fun i => by simp only [Nat.add_sub_cancel_left]⟩
  have e0 : ad (p + 0) = h0 := by rw [hA]; rfl
  have e1 : ad (p + 1) = q0 := by rw [hA]; rfl
  have e2 : ad (p + 2) = q1 := by rw [hA]; rfl
  have e3 : ad (p + 3) = q2 := by rw [hA]; rfl
  have e4 : ad (p + 4) = q3 := by rw [hA]; rfl
  have e5 : ad (p + 5) = q4 := by rw [hA]; rfl
  have e6 : ad (p + 6) = q5 := by rw [hA]; rfl
  have e7 : ad (p + 7) = q6 := by rw [hA]; rfl
  have f0 : jfs ad M 3 (p + 0) = [.int 0, .int 0, .int 0, .ref q0, .ref q1, .ref q2, .ref q3, .ref q4, .ref q5, .ref q6] := by
    show ([.int (M.1 p 0), .int (M.1 p 1), .int (M.1 p 2), .ref (ad (p + 1)), .ref (ad (p + 2)), .ref (ad (p + 3)), .ref (ad (p + 4)), .ref (ad (p + 5)), .ref (ad (p + 6)), .ref (ad (p + 7))] : List Value) = _
    simp only [show M.1 p = _ from (hz 0 (by decide)).1, show M.2 p = _ from (hz 0 (by decide)).2, show ad (p + 1) = _ from e1, show ad (p + 2) = _ from e2, show ad (p + 3) = _ from e3, show ad (p + 4) = _ from e4, show ad (p + 5) = _ from e5, show ad (p + 6) = _ from e6, show ad (p + 7) = _ from e7]
  refine ⟨ad, e0, ?_⟩
  have ht : jsh p ft3 = (p + 0, 3, 10) :: ((p + 1, 20, 60) :: ((p + 2, 20, 60) :: ((p + 3, 20, 60) :: ((p + 4, 20, 60) :: ((p + 5, 20, 60) :: ((p + 6, 20, 60) :: ((p + 7, 20, 60) :: ([])))))))) := rfl
  rw [ht]
  rw [jw_cons, jw_cons, jw_cons, jw_cons, jw_cons, jw_cons, jw_cons, jw_cons, jw_nil]
  rw [je_o (by decide) f0, je_20 (hz 1 (by decide)).1, je_20 (hz 2 (by decide)).1, je_20 (hz 3 (by decide)).1, je_20 (hz 4 (by decide)).1, je_20 (hz 5 (by decide)).1, je_20 (hz 6 (by decide)).1, je_20 (hz 7 (by decide)).1]
  show _ = ((ad (p + 0), .inr (3, [.int 0, .int 0, .int 0, .ref q0, .ref q1, .ref q2, .ref q3, .ref q4, .ref q5, .ref q6])) :: ((ad (p + 1), .inl (x.2.2.1 20, 60, .inl (fun _ => 0))) :: ((ad (p + 2), .inl (x.2.2.1 20, 60, .inl (fun _ => 0))) :: ((ad (p + 3), .inl (x.2.2.1 20, 60, .inl (fun _ => 0))) :: ((ad (p + 4), .inl (x.2.2.1 20, 60, .inl (fun _ => 0))) :: ((ad (p + 5), .inl (x.2.2.1 20, 60, .inl (fun _ => 0))) :: ((ad (p + 6), .inl (x.2.2.1 20, 60, .inl (fun _ => 0))) :: ((ad (p + 7), .inl (x.2.2.1 20, 60, .inl (fun _ => 0))) :: ([])))))))) : va_W)
  rw [e0, e1, e2, e3, e4, e5, e6, e7]
set_option maxRecDepth 20000 in
set_option maxHeartbeats 1000000 in
theorem c_X5 {x : kX} {d h0 p : Nat} {M : jM} (hz : ∀ i, i < 9 → M.1 (p + i) = (fun _ => 0) ∧ M.2 (p + i) = (fun _ => 0)) : KC x mX5_init (d + 1) 8 350 [.ref h0] [(h0, .inr (5, zX5))] (fun w r => r = none ∧ kI x p h0 ft5 M w) := by
  refine KC.of (by decide +kernel) (Nat.le_of_ble_eq_true rfl) ?_
  refine kw_ls (ls' := [(0, .ref h0)]) rfl ?_
  refine kw_ws (ws' := [(h0, .inr (5, [.int 0, .int 0, .int 0, .int 0, .int 0, .null, .null, .null, .null, .null, .null, .null, .null]))]) rfl ?_
  refine kw_aload_n (pc := 0) (j := 0) dX5_init_0 rfl rfl ?_
  refine kw_obj (pc := 1) dX5_init_1 ob_X5 ob_i ob_c (Nat.le_of_ble_eq_true rfl) ?_
  refine kw_aload_n (pc := 4) (j := 0) dX5_init_4 rfl rfl ?_
  refine kw_bipush (pc := 5) (v := 25) dX5_init_5 rfl ?_
  refine kw_newI (pc := 7) (N := 25) dX5_init_7 (by decide) (by decide) (by decide) (Nat.le_of_ble_eq_true rfl) (Nat.le_of_ble_eq_true rfl) aw_I (fun q0 => ?_)
  refine kw_ws (ws' := [(h0, .inr (5, [.int 0, .int 0, .int 0, .int 0, .int 0, .null, .null, .null, .null, .null, .null, .null, .null])), (q0, .inl (x.2.2.1 20, 25, .inl (fun _ => 0)))]) (by simp only [List.append_assoc, List.cons_append, List.nil_append]) ?_
  refine kw_putF (pc := 9) (fs' := [.int 0, .int 0, .int 0, .int 0, .int 0, .ref q0, .null, .null, .null, .null, .null, .null, .null]) dX5_init_9 fl_X5_9 kf_5_5 rfl rfl rfl (Nat.le_of_ble_eq_true rfl) rfl ?_
  refine kw_aload_n (pc := 12) (j := 0) dX5_init_12 rfl rfl ?_
  refine kw_bipush (pc := 13) (v := 25) dX5_init_13 rfl ?_
  refine kw_newI (pc := 15) (N := 25) dX5_init_15 (by decide) (by decide) (by decide) (Nat.le_of_ble_eq_true rfl) (Nat.le_of_ble_eq_true rfl) aw_I (fun q1 => ?_)
  refine kw_ws (ws' := [(h0, .inr (5, [.int 0, .int 0, .int 0, .int 0, .int 0, .ref q0, .null, .null, .null, .null, .null, .null, .null])), (q0, .inl (x.2.2.1 20, 25, .inl (fun _ => 0))), (q1, .inl (x.2.2.1 20, 25, .inl (fun _ => 0)))]) (by simp only [List.append_assoc, List.cons_append, List.nil_append]) ?_
  refine kw_putF (pc := 17) (fs' := [.int 0, .int 0, .int 0, .int 0, .int 0, .ref q0, .ref q1, .null, .null, .null, .null, .null, .null]) dX5_init_17 fl_X5_15 kf_5_6 rfl rfl rfl (Nat.le_of_ble_eq_true rfl) rfl ?_
  refine kw_aload_n (pc := 20) (j := 0) dX5_init_20 rfl rfl ?_
  refine kw_bipush (pc := 21) (v := 25) dX5_init_21 rfl ?_
  refine kw_newI (pc := 23) (N := 25) dX5_init_23 (by decide) (by decide) (by decide) (Nat.le_of_ble_eq_true rfl) (Nat.le_of_ble_eq_true rfl) aw_I (fun q2 => ?_)
  refine kw_ws (ws' := [(h0, .inr (5, [.int 0, .int 0, .int 0, .int 0, .int 0, .ref q0, .ref q1, .null, .null, .null, .null, .null, .null])), (q0, .inl (x.2.2.1 20, 25, .inl (fun _ => 0))), (q1, .inl (x.2.2.1 20, 25, .inl (fun _ => 0))), (q2, .inl (x.2.2.1 20, 25, .inl (fun _ => 0)))]) (by simp only [List.append_assoc, List.cons_append, List.nil_append]) ?_
  refine kw_putF (pc := 25) (fs' := [.int 0, .int 0, .int 0, .int 0, .int 0, .ref q0, .ref q1, .ref q2, .null, .null, .null, .null, .null]) dX5_init_25 fl_X5_18 kf_5_7 rfl rfl rfl (Nat.le_of_ble_eq_true rfl) rfl ?_
  refine kw_aload_n (pc := 28) (j := 0) dX5_init_28 rfl rfl ?_
  refine kw_bipush (pc := 29) (v := 6) dX5_init_29 rfl ?_
  refine kw_newL (pc := 31) (N := 6) dX5_init_31 (by decide) (by decide) (by decide) (Nat.le_of_ble_eq_true rfl) (Nat.le_of_ble_eq_true rfl) aw_L (fun q3 => ?_)
  refine kw_ws (ws' := [(h0, .inr (5, [.int 0, .int 0, .int 0, .int 0, .int 0, .ref q0, .ref q1, .ref q2, .null, .null, .null, .null, .null])), (q0, .inl (x.2.2.1 20, 25, .inl (fun _ => 0))), (q1, .inl (x.2.2.1 20, 25, .inl (fun _ => 0))), (q2, .inl (x.2.2.1 20, 25, .inl (fun _ => 0))), (q3, .inl (x.2.2.1 23, 6, .inr (.inl (fun _ => 0))))]) (by simp only [List.append_assoc, List.cons_append, List.nil_append]) ?_
  refine kw_putF (pc := 33) (fs' := [.int 0, .int 0, .int 0, .int 0, .int 0, .ref q0, .ref q1, .ref q2, .ref q3, .null, .null, .null, .null]) dX5_init_33 fl_X5_21 kf_5_8 rfl rfl rfl (Nat.le_of_ble_eq_true rfl) rfl ?_
  refine kw_aload_n (pc := 36) (j := 0) dX5_init_36 rfl rfl ?_
  refine kw_bipush (pc := 37) (v := 6) dX5_init_37 rfl ?_
  refine kw_newI (pc := 39) (N := 6) dX5_init_39 (by decide) (by decide) (by decide) (Nat.le_of_ble_eq_true rfl) (Nat.le_of_ble_eq_true rfl) aw_I (fun q4 => ?_)
  refine kw_ws (ws' := [(h0, .inr (5, [.int 0, .int 0, .int 0, .int 0, .int 0, .ref q0, .ref q1, .ref q2, .ref q3, .null, .null, .null, .null])), (q0, .inl (x.2.2.1 20, 25, .inl (fun _ => 0))), (q1, .inl (x.2.2.1 20, 25, .inl (fun _ => 0))), (q2, .inl (x.2.2.1 20, 25, .inl (fun _ => 0))), (q3, .inl (x.2.2.1 23, 6, .inr (.inl (fun _ => 0)))), (q4, .inl (x.2.2.1 20, 6, .inl (fun _ => 0)))]) (by simp only [List.append_assoc, List.cons_append, List.nil_append]) ?_
  refine kw_putF (pc := 41) (fs' := [.int 0, .int 0, .int 0, .int 0, .int 0, .ref q0, .ref q1, .ref q2, .ref q3, .ref q4, .null, .null, .null]) dX5_init_41 fl_X5_25 kf_5_9 rfl rfl rfl (Nat.le_of_ble_eq_true rfl) rfl ?_
  refine kw_aload_n (pc := 44) (j := 0) dX5_init_44 rfl rfl ?_
  refine kw_bipush (pc := 45) (v := 54) dX5_init_45 rfl ?_
  refine kw_newI (pc := 47) (N := 54) dX5_init_47 (by decide) (by decide) (by decide) (Nat.le_of_ble_eq_true rfl) (Nat.le_of_ble_eq_true rfl) aw_I (fun q5 => ?_)
  refine kw_ws (ws' := [(h0, .inr (5, [.int 0, .int 0, .int 0, .int 0, .int 0, .ref q0, .ref q1, .ref q2, .ref q3, .ref q4, .null, .null, .null])), (q0, .inl (x.2.2.1 20, 25, .inl (fun _ => 0))), (q1, .inl (x.2.2.1 20, 25, .inl (fun _ => 0))), (q2, .inl (x.2.2.1 20, 25, .inl (fun _ => 0))), (q3, .inl (x.2.2.1 23, 6, .inr (.inl (fun _ => 0)))), (q4, .inl (x.2.2.1 20, 6, .inl (fun _ => 0))), (q5, .inl (x.2.2.1 20, 54, .inl (fun _ => 0)))]) (by simp only [List.append_assoc, List.cons_append, List.nil_append]) ?_
  refine kw_putF (pc := 49) (fs' := [.int 0, .int 0, .int 0, .int 0, .int 0, .ref q0, .ref q1, .ref q2, .ref q3, .ref q4, .ref q5, .null, .null]) dX5_init_49 fl_X5_28 kf_5_10 rfl rfl rfl (Nat.le_of_ble_eq_true rfl) rfl ?_
  refine kw_aload_n (pc := 52) (j := 0) dX5_init_52 rfl rfl ?_
  refine kw_sipush (pc := 53) (v := 200) dX5_init_53 rfl ?_
  refine kw_newI (pc := 56) (N := 200) dX5_init_56 (by decide) (by decide) (by decide) (Nat.le_of_ble_eq_true rfl) (Nat.le_of_ble_eq_true rfl) aw_I (fun q6 => ?_)
  refine kw_ws (ws' := [(h0, .inr (5, [.int 0, .int 0, .int 0, .int 0, .int 0, .ref q0, .ref q1, .ref q2, .ref q3, .ref q4, .ref q5, .null, .null])), (q0, .inl (x.2.2.1 20, 25, .inl (fun _ => 0))), (q1, .inl (x.2.2.1 20, 25, .inl (fun _ => 0))), (q2, .inl (x.2.2.1 20, 25, .inl (fun _ => 0))), (q3, .inl (x.2.2.1 23, 6, .inr (.inl (fun _ => 0)))), (q4, .inl (x.2.2.1 20, 6, .inl (fun _ => 0))), (q5, .inl (x.2.2.1 20, 54, .inl (fun _ => 0))), (q6, .inl (x.2.2.1 20, 200, .inl (fun _ => 0)))]) (by simp only [List.append_assoc, List.cons_append, List.nil_append]) ?_
  refine kw_putF (pc := 58) (fs' := [.int 0, .int 0, .int 0, .int 0, .int 0, .ref q0, .ref q1, .ref q2, .ref q3, .ref q4, .ref q5, .ref q6, .null]) dX5_init_58 fl_X5_31 kf_5_11 rfl rfl rfl (Nat.le_of_ble_eq_true rfl) rfl ?_
  refine kw_aload_n (pc := 61) (j := 0) dX5_init_61 rfl rfl ?_
  refine kw_bipush (pc := 62) (v := 9) dX5_init_62 rfl ?_
  refine kw_newI (pc := 64) (N := 9) dX5_init_64 (by decide) (by decide) (by decide) (Nat.le_of_ble_eq_true rfl) (Nat.le_of_ble_eq_true rfl) aw_I (fun q7 => ?_)
  refine kw_ws (ws' := [(h0, .inr (5, [.int 0, .int 0, .int 0, .int 0, .int 0, .ref q0, .ref q1, .ref q2, .ref q3, .ref q4, .ref q5, .ref q6, .null])), (q0, .inl (x.2.2.1 20, 25, .inl (fun _ => 0))), (q1, .inl (x.2.2.1 20, 25, .inl (fun _ => 0))), (q2, .inl (x.2.2.1 20, 25, .inl (fun _ => 0))), (q3, .inl (x.2.2.1 23, 6, .inr (.inl (fun _ => 0)))), (q4, .inl (x.2.2.1 20, 6, .inl (fun _ => 0))), (q5, .inl (x.2.2.1 20, 54, .inl (fun _ => 0))), (q6, .inl (x.2.2.1 20, 200, .inl (fun _ => 0))), (q7, .inl (x.2.2.1 20, 9, .inl (fun _ => 0)))]) (by simp only [List.append_assoc, List.cons_append, List.nil_append]) ?_
  refine kw_putF (pc := 66) (fs' := [.int 0, .int 0, .int 0, .int 0, .int 0, .ref q0, .ref q1, .ref q2, .ref q3, .ref q4, .ref q5, .ref q6, .ref q7]) dX5_init_66 fl_X5_34 kf_5_12 rfl rfl rfl (Nat.le_of_ble_eq_true rfl) rfl ?_
  refine kw_vret (pc := 69) dX5_init_69 rfl rfl rfl ⟨rfl, ?_⟩
  obtain ⟨ad, hA⟩ : ∃ ad : Nat → Nat, ∀ i, ad (p + i) = if i < 1 then h0 else if i < 2 then q0 else if i < 3 then q1 else if i < 4 then q2 else if i < 5 then q3 else if i < 6 then q4 else if i < 7 then q5 else if i < 8 then q6 else q7 := ⟨fun k => if (k - p) < 1 then h0 else if (k - p) < 2 then q0 else if (k - p) < 3 then q1 else if (k - p) < 4 then q2 else if (k - p) < 5 then q3 else if (k - p) < 6 then q4 else if (k - p) < 7 then q5 else if (k - p) < 8 then q6 else q7, fun i => by simp only [Nat.add_sub_cancel_left]⟩
  have e0 : ad (p + 0) = h0 := by rw [hA]; rfl
  have e1 : ad (p + 1) = q0 := by rw [hA]; rfl
  have e2 : ad (p + 2) = q1 := by rw [hA]; rfl
  have e3 : ad (p + 3) = q2 := by rw [hA]; rfl
  have e4 : ad (p + 4) = q3 := by rw [hA]; rfl
  have e5 : ad (p + 5) = q4 := by rw [hA]; rfl
  have e6 : ad (p + 6) = q5 := by rw [hA]; rfl
  have e7 : ad (p + 7) = q6 := by rw [hA]; rfl
  have e8 : ad (p + 8) = q7 := by rw [hA]; rfl
  have f0 : jfs ad M 5 (p + 0) = [.int 0, .int 0, .int 0, .int 0, .int 0, .ref q0, .ref q1, .ref q2, .ref q3, .ref q4, .ref q5, .ref q6, .ref q7] := by
    show ([.int (M.1 p 0), .int (M.1 p 1), .int (M.1 p 2), .int (M.1 p 3), .int (M.1 p 4), .ref (ad (p + 1)), .ref (ad (p + 2)), .ref (ad (p + 3)), .ref (ad (p + 4)), .ref (ad (p + 5)), .ref (ad (p + 6)), .ref (ad (p + 7)), .ref (ad (p + 8))] : List Value) = _
    simp only [show M.1 p = _ from (hz 0 (by decide)).1, show M.2 p = _ from (hz 0 (by decide)).2, show ad (p + 1) = _ from e1, show ad (p + 2) = _ from e2, show ad (p + 3) = _ from e3, show ad (p + 4) = _ from e4, show ad (p + 5) = _ from e5, show ad (p + 6) = _ from e6, show ad (p + 7) = _ from e7, show ad (p + 8) = _ from e8]
  refine ⟨ad, e0, ?_⟩
  have ht : jsh p ft5 = (p + 0, 5, 13) :: ((p + 1, 20, 25) :: ((p + 2, 20, 25) :: ((p + 3, 20, 25) :: ((p + 4, 23, 6) :: ((p + 5, 20, 6) :: ((p + 6, 20, 54) :: ((p + 7, 20, 200) :: ((p + 8, 20, 9) :: ([]))))))))) := rfl
  rw [ht]
  rw [jw_cons, jw_cons, jw_cons, jw_cons, jw_cons, jw_cons, jw_cons, jw_cons, jw_cons, jw_nil]
  rw [je_o (by decide) f0, je_20 (hz 1 (by decide)).1, je_20 (hz 2 (by decide)).1, je_20 (hz 3 (by decide)).1, je_23 (hz 4 (by decide)).2, je_20 (hz 5 (by decide)).1, je_20 (hz 6 (by decide)).1, je_20 (hz 7 (by decide)).1, je_20 (hz 8 (by decide)).1]
  show _ = ((ad (p + 0), .inr (5, [.int 0, .int 0, .int 0, .int 0, .int 0, .ref q0, .ref q1, .ref q2, .ref q3, .ref q4, .ref q5, .ref q6, .ref q7])) :: ((ad (p + 1), .inl (x.2.2.1 20, 25, .inl (fun _ => 0))) :: ((ad (p + 2), .inl (x.2.2.1 20, 25, .inl (fun _ => 0))) :: ((ad (p + 3), .inl (x.2.2.1 20, 25, .inl (fun _ => 0))) :: ((ad (p + 4), .inl (x.2.2.1 23, 6, .inr (.inl (fun _ => 0)))) :: ((ad (p + 5), .inl (x.2.2.1 20, 6, .inl (fun _ => 0))) :: ((ad (p + 6), .inl (x.2.2.1 20, 54, .inl (fun _ => 0))) :: ((ad (p + 7), .inl (x.2.2.1 20, 200, .inl (fun _ => 0))) :: ((ad (p + 8), .inl (x.2.2.1 20, 9, .inl (fun _ => 0))) :: ([]))))))))) : va_W)
  rw [e0, e1, e2, e3, e4, e5, e6, e7, e8]
set_option maxRecDepth 20000 in
set_option maxHeartbeats 1000000 in
theorem c_X9 {x : kX} {d h0 p : Nat} {M : jM} (hz : ∀ i, i < 2 → M.1 (p + i) = (fun _ => 0) ∧ M.2 (p + i) = (fun _ => 0)) : KC x mX9_init (d + 1) 1 60 [.ref h0] [(h0, .inr (9, zX9))] (fun w r => r = none ∧ kI x p h0 ft9 M w) := by
  refine KC.of (by decide +kernel) (Nat.le_of_ble_eq_true rfl) ?_
  refine kw_ls (ls' := [(0, .ref h0)]) rfl ?_
  refine kw_ws (ws' := [(h0, .inr (9, [.int 0, .int 0, .int 0, .null]))]) rfl ?_
  refine kw_aload_n (pc := 0) (j := 0) dX9_init_0 rfl rfl ?_
  refine kw_obj (pc := 1) dX9_init_1 ob_X9 ob_i ob_c (Nat.le_of_ble_eq_true rfl) ?_
  refine kw_aload_n (pc := 4) (j := 0) dX9_init_4 rfl rfl ?_
  refine kw_bipush (pc := 5) (v := 60) dX9_init_5 rfl ?_
  refine kw_newL (pc := 7) (N := 60) dX9_init_7 (by decide) (by decide) (by decide) (Nat.le_of_ble_eq_true rfl) (Nat.le_of_ble_eq_true rfl) aw_L (fun q0 => ?_)
  refine kw_ws (ws' := [(h0, .inr (9, [.int 0, .int 0, .int 0, .null])), (q0, .inl (x.2.2.1 23, 60, .inr (.inl (fun _ => 0))))]) (by simp only [List.append_assoc, List.cons_append, List.nil_append]) ?_
  refine kw_putF (pc := 9) (fs' := [.int 0, .int 0, .int 0, .ref q0]) dX9_init_9 fl_X9_9 kf_9_3 rfl rfl rfl (Nat.le_of_ble_eq_true rfl) rfl ?_
  refine kw_vret (pc := 12) dX9_init_12 rfl rfl rfl ⟨rfl, ?_⟩
  obtain ⟨ad, hA⟩ : ∃ ad : Nat → Nat, ∀ i, ad (p + i) = if i < 1 then h0 else q0 := ⟨fun k => if (k - p) < 1 then h0 else q0, fun i => by simp only [Nat.add_sub_cancel_left]⟩
  have e0 : ad (p + 0) = h0 := by rw [hA]; rfl
  have e1 : ad (p + 1) = q0 := by rw [hA]; rfl
  have f0 : jfs ad M 9 (p + 0) = [.int 0, .int 0, .int 0, .ref q0] := by
    show ([.int (M.1 p 0), .int (M.1 p 1), .int (M.1 p 2), .ref (ad (p + 1))] : List Value) = _
    simp only [show M.1 p = _ from (hz 0 (by decide)).1, show M.2 p = _ from (hz 0 (by decide)).2, show ad (p + 1) = _ from e1]
  refine ⟨ad, e0, ?_⟩
  have ht : jsh p ft9 = (p + 0, 9, 4) :: ((p + 1, 23, 60) :: ([])) := rfl
  rw [ht]
  rw [jw_cons, jw_cons, jw_nil]
  rw [je_o (by decide) f0, je_23 (hz 1 (by decide)).2]
  show _ = ((ad (p + 0), .inr (9, [.int 0, .int 0, .int 0, .ref q0])) :: ((ad (p + 1), .inl (x.2.2.1 23, 60, .inr (.inl (fun _ => 0)))) :: ([])) : va_W)
  rw [e0, e1]
set_option maxRecDepth 20000 in
set_option maxHeartbeats 1000000 in
theorem c_X8 {x : kX} {d h0 p : Nat} {M : jM} (hz : ∀ i, i < 13 → M.1 (p + i) = (fun _ => 0) ∧ M.2 (p + i) = (fun _ => 0)) : KC x mX8_init (d + 2) 12 2365 [.ref h0] [(h0, .inr (8, zX8))] (fun w r => r = none ∧ kI x p h0 ft8 M w) := by
  refine KC.of (by decide +kernel) (Nat.le_of_ble_eq_true rfl) ?_
  refine kw_ls (ls' := [(0, .ref h0)]) rfl ?_
  refine kw_ws (ws' := [(h0, .inr (8, [.null, .null, .null, .null, .null, .null, .int 0]))]) rfl ?_
  refine kw_aload_n (pc := 0) (j := 0) dX8_init_0 rfl rfl ?_
  refine kw_obj (pc := 1) dX8_init_1 ob_X8 ob_i ob_c (Nat.le_of_ble_eq_true rfl) ?_
  refine kw_aload_n (pc := 4) (j := 0) dX8_init_4 rfl rfl ?_
  refine kw_bipush (pc := 5) (v := 25) dX8_init_5 rfl ?_
  refine kw_newI (pc := 7) (N := 25) dX8_init_7 (by decide) (by decide) (by decide) (Nat.le_of_ble_eq_true rfl) (Nat.le_of_ble_eq_true rfl) aw_I (fun q0 => ?_)
  refine kw_ws (ws' := [(h0, .inr (8, [.null, .null, .null, .null, .null, .null, .int 0])), (q0, .inl (x.2.2.1 20, 25, .inl (fun _ => 0)))]) (by simp only [List.append_assoc, List.cons_append, List.nil_append]) ?_
  refine kw_putF (pc := 9) (fs' := [.ref q0, .null, .null, .null, .null, .null, .int 0]) dX8_init_9 fl_X8_9 kf_8_0 rfl rfl rfl (Nat.le_of_ble_eq_true rfl) rfl ?_
  refine kw_aload_n (pc := 12) (j := 0) dX8_init_12 rfl rfl ?_
  refine kw_iconst (pc := 13) (v := 3) dX8_init_13 rfl ?_
  refine kw_newI (pc := 14) (N := 3) dX8_init_14 (by decide) (by decide) (by decide) (Nat.le_of_ble_eq_true rfl) (Nat.le_of_ble_eq_true rfl) aw_I (fun q1 => ?_)
  refine kw_ws (ws' := [(h0, .inr (8, [.ref q0, .null, .null, .null, .null, .null, .int 0])), (q0, .inl (x.2.2.1 20, 25, .inl (fun _ => 0))), (q1, .inl (x.2.2.1 20, 3, .inl (fun _ => 0)))]) (by simp only [List.append_assoc, List.cons_append, List.nil_append]) ?_
  refine kw_putF (pc := 16) (fs' := [.ref q0, .ref q1, .null, .null, .null, .null, .int 0]) dX8_init_16 fl_X8_15 kf_8_1 rfl rfl rfl (Nat.le_of_ble_eq_true rfl) rfl ?_
  refine kw_aload_n (pc := 19) (j := 0) dX8_init_19 rfl rfl ?_
  refine kw_bipush (pc := 20) (v := 54) dX8_init_20 rfl ?_
  refine kw_newI (pc := 22) (N := 54) dX8_init_22 (by decide) (by decide) (by decide) (Nat.le_of_ble_eq_true rfl) (Nat.le_of_ble_eq_true rfl) aw_I (fun q2 => ?_)
  refine kw_ws (ws' := [(h0, .inr (8, [.ref q0, .ref q1, .null, .null, .null, .null, .int 0])), (q0, .inl (x.2.2.1 20, 25, .inl (fun _ => 0))), (q1, .inl (x.2.2.1 20, 3, .inl (fun _ => 0))), (q2, .inl (x.2.2.1 20, 54, .inl (fun _ => 0)))]) (by simp only [List.append_assoc, List.cons_append, List.nil_append]) ?_
  refine kw_putF (pc := 24) (fs' := [.ref q0, .ref q1, .ref q2, .null, .null, .null, .int 0]) dX8_init_24 fl_X8_18 kf_8_2 rfl rfl rfl (Nat.le_of_ble_eq_true rfl) rfl ?_
  refine kw_aload_n (pc := 27) (j := 0) dX8_init_27 rfl rfl ?_
  refine kw_bipush (pc := 28) (v := 9) dX8_init_28 rfl ?_
  refine kw_newI (pc := 30) (N := 9) dX8_init_30 (by decide) (by decide) (by decide) (Nat.le_of_ble_eq_true rfl) (Nat.le_of_ble_eq_true rfl) aw_I (fun q3 => ?_)
  refine kw_ws (ws' := [(h0, .inr (8, [.ref q0, .ref q1, .ref q2, .null, .null, .null, .int 0])), (q0, .inl (x.2.2.1 20, 25, .inl (fun _ => 0))), (q1, .inl (x.2.2.1 20, 3, .inl (fun _ => 0))), (q2, .inl (x.2.2.1 20, 54, .inl (fun _ => 0))), (q3, .inl (x.2.2.1 20, 9, .inl (fun _ => 0)))]) (by simp only [List.append_assoc, List.cons_append, List.nil_append]) ?_
  refine kw_putF (pc := 32) (fs' := [.ref q0, .ref q1, .ref q2, .ref q3, .null, .null, .int 0]) dX8_init_32 fl_X8_21 kf_8_3 rfl rfl rfl (Nat.le_of_ble_eq_true rfl) rfl ?_
  refine kw_aload_n (pc := 35) (j := 0) dX8_init_35 rfl rfl ?_
  refine kw_bipush (pc := 36) (v := 25) dX8_init_36 rfl ?_
  refine kw_newL (pc := 38) (N := 25) dX8_init_38 (by decide) (by decide) (by decide) (Nat.le_of_ble_eq_true rfl) (Nat.le_of_ble_eq_true rfl) aw_L (fun q4 => ?_)
  refine kw_ws (ws' := [(h0, .inr (8, [.ref q0, .ref q1, .ref q2, .ref q3, .null, .null, .int 0])), (q0, .inl (x.2.2.1 20, 25, .inl (fun _ => 0))), (q1, .inl (x.2.2.1 20, 3, .inl (fun _ => 0))), (q2, .inl (x.2.2.1 20, 54, .inl (fun _ => 0))), (q3, .inl (x.2.2.1 20, 9, .inl (fun _ => 0))), (q4, .inl (x.2.2.1 23, 25, .inr (.inl (fun _ => 0))))]) (by simp only [List.append_assoc, List.cons_append, List.nil_append]) ?_
  refine kw_putF (pc := 40) (fs' := [.ref q0, .ref q1, .ref q2, .ref q3, .ref q4, .null, .int 0]) dX8_init_40 fl_X8_24 kf_8_4 rfl rfl rfl (Nat.le_of_ble_eq_true rfl) rfl ?_
  refine kw_aload_n (pc := 43) (j := 0) dX8_init_43 rfl rfl ?_
  refine kw_new (pc := 44) (N := 10) dX8_init_44 kcl_1 rfl rfl cl_X8_28 (Nat.le_of_ble_eq_true rfl) (Nat.le_of_ble_eq_true rfl) (fun q5 => ?_)
  refine kw_dup (pc := 47) dX8_init_47 rfl ?_
  refine kw_initN (pc := 48) dX8_init_48 km_1 mi_X8_30 (Nat.le_of_ble_eq_true rfl) (Nat.le_of_ble_eq_true rfl) (Nat.le_of_ble_eq_true rfl) (c_X1 (p := (p + 6)) (fun i hi => by have := hz (6 + i) (by omega); rw [← Nat.add_assoc] at this; exact this)) (fun w0 hw0 => ?_)
  refine kw_ws (ws' := (h0, .inr (8, [.ref q0, .ref q1, .ref q2, .ref q3, .ref q4, .null, .int 0])) :: ((q0, .inl (x.2.2.1 20, 25, .inl (fun _ => 0))) :: ((q1, .inl (x.2.2.1 20, 3, .inl (fun _ => 0))) :: ((q2, .inl (x.2.2.1 20, 54, .inl (fun _ => 0))) :: ((q3, .inl (x.2.2.1 20, 9, .inl (fun _ => 0))) :: ((q4, .inl (x.2.2.1 23, 25, .inr (.inl (fun _ => 0)))) :: (w0))))))) (by simp only [List.append_assoc, List.cons_append, List.nil_append]) ?_
  refine kw_putF (pc := 51) (fs' := [.ref q0, .ref q1, .ref q2, .ref q3, .ref q4, .ref q5, .int 0]) dX8_init_51 fl_X8_31 kf_8_5 rfl rfl rfl (Nat.le_of_ble_eq_true rfl) rfl ?_
  refine kw_vret (pc := 54) dX8_init_54 rfl rfl rfl ⟨rfl, ?_⟩
  obtain ⟨ad0, ha0, he0⟩ := hw0
  obtain ⟨ad, hA⟩ : ∃ ad : Nat → Nat, ∀ i, ad (p + i) = if i < 1 then h0 else if i < 2 then q0 else if i < 3 then q1 else if i < 4 then q2 else if i < 5 then q3 else if i < 6 then q4 else ad0 (p + i) := ⟨fun k => if (k - p) < 1 then h0 else if (k - p) < 2 then q0 else if (k - p) < 3 then q1 else if (k - p) < 4 then q2 else if (k - p) < 5 then q3 else if (k - p) < 6 then q4 else ad0 k, fun i => by simp only [Nat.add_sub_cancel_left]⟩
  have e0 : ad (p + 0) = h0 := by rw [hA]; rfl
  have e1 : ad (p + 1) = q0 := by rw [hA]; rfl
  have e2 : ad (p + 2) = q1 := by rw [hA]; rfl
  have e3 : ad (p + 3) = q2 := by rw [hA]; rfl
  have e4 : ad (p + 4) = q3 := by rw [hA]; rfl
  have e5 : ad (p + 5) = q4 := by rw [hA]; rfl
  have e6 : ad (p + 6) = q5 := by rw [hA, ← ha0]; rfl
  have c0 : jw (kj x ad0) (jsh (p + 6) ft1) M = jw (kj x ad) (jsh (p + 6) ft1) M := jw_cong (n := 7) (by decide +kernel) (fun q hq h => absurd h ((by decide : ∀ q ∈ ft1, q.2.1 ≠ 7) q hq)) (fun i hi => by rw [Nat.add_assoc, hA, if_neg (by omega), if_neg (by omega), if_neg (by omega), if_neg (by omega), if_neg (by omega), if_neg (by omega)])
  have f0 : jfs ad M 8 (p + 0) = [.ref q0, .ref q1, .ref q2, .ref q3, .ref q4, .ref q5, .int 0] := by
    show ([.ref (ad (p + 1)), .ref (ad (p + 2)), .ref (ad (p + 3)), .ref (ad (p + 4)), .ref (ad (p + 5)), .ref (ad (p + 6)), .int (M.1 p 6)] : List Value) = _
    simp only [show M.1 p = _ from (hz 0 (by decide)).1, show M.2 p = _ from (hz 0 (by decide)).2, show ad (p + 1) = _ from e1, show ad (p + 2) = _ from e2, show ad (p + 3) = _ from e3, show ad (p + 4) = _ from e4, show ad (p + 5) = _ from e5, show ad (p + 6) = _ from e6]
  refine ⟨ad, e0, ?_⟩
  have ht : jsh p ft8 = (p + 0, 8, 7) :: ((p + 1, 20, 25) :: ((p + 2, 20, 3) :: ((p + 3, 20, 54) :: ((p + 4, 20, 9) :: ((p + 5, 23, 25) :: (jsh (p + 6) ft1)))))) := rfl
  rw [ht]
  rw [jw_cons, jw_cons, jw_cons, jw_cons, jw_cons, jw_cons]
  rw [je_o (by decide) f0, je_20 (hz 1 (by decide)).1, je_20 (hz 2 (by decide)).1, je_20 (hz 3 (by decide)).1, je_20 (hz 4 (by decide)).1, je_23 (hz 5 (by decide)).2, ← c0, ← he0]
  show _ = ((ad (p + 0), .inr (8, [.ref q0, .ref q1, .ref q2, .ref q3, .ref q4, .ref q5, .int 0])) :: ((ad (p + 1), .inl (x.2.2.1 20, 25, .inl (fun _ => 0))) :: ((ad (p + 2), .inl (x.2.2.1 20, 3, .inl (fun _ => 0))) :: ((ad (p + 3), .inl (x.2.2.1 20, 54, .inl (fun _ => 0))) :: ((ad (p + 4), .inl (x.2.2.1 20, 9, .inl (fun _ => 0))) :: ((ad (p + 5), .inl (x.2.2.1 23, 25, .inr (.inl (fun _ => 0)))) :: (w0)))))) : va_W)
  rw [e0, e1, e2, e3, e4, e5]
set_option maxRecDepth 20000 in
set_option maxHeartbeats 1000000 in
theorem c_X10 {x : kX} {d h0 p : Nat} {M : jM} (hz : ∀ i, i < 19 → M.1 (p + i) = (fun _ => 0) ∧ M.2 (p + i) = (fun _ => 0)) : KC x mX10_init (d + 2) 18 818 [.ref h0] [(h0, .inr (10, zX10))] (fun w r => r = none ∧ kI x p h0 ft10 M w) := by
  refine KC.of (by decide +kernel) (Nat.le_of_ble_eq_true rfl) ?_
  refine kw_ls (ls' := [(0, .ref h0)]) rfl ?_
  refine kw_ws (ws' := [(h0, .inr (10, [.null, .null, .null]))]) rfl ?_
  refine kw_aload_n (pc := 0) (j := 0) dX10_init_0 rfl rfl ?_
  refine kw_obj (pc := 1) dX10_init_1 ob_X10 ob_i ob_c (Nat.le_of_ble_eq_true rfl) ?_
  refine kw_aload_n (pc := 4) (j := 0) dX10_init_4 rfl rfl ?_
  refine kw_new (pc := 5) (N := 13) dX10_init_5 kcl_5 rfl rfl cl_X10_9 (Nat.le_of_ble_eq_true rfl) (Nat.le_of_ble_eq_true rfl) (fun q0 => ?_)
  refine kw_dup (pc := 8) dX10_init_8 rfl ?_
  refine kw_initN (pc := 9) dX10_init_9 km_5 mi_X10_11 (Nat.le_of_ble_eq_true rfl) (Nat.le_of_ble_eq_true rfl) (Nat.le_of_ble_eq_true rfl) (c_X5 (p := (p + 1)) (fun i hi => by have := hz (1 + i) (by omega); rw [← Nat.add_assoc] at this; exact this)) (fun w0 hw0 => ?_)
  refine kw_ws (ws' := (h0, .inr (10, [.null, .null, .null])) :: (w0)) (by simp only [List.append_assoc, List.cons_append, List.nil_append]) ?_
  refine kw_putF (pc := 12) (fs' := [.ref q0, .null, .null]) dX10_init_12 fl_X10_12 kf_10_0 rfl rfl rfl (Nat.le_of_ble_eq_true rfl) rfl ?_
  refine kw_aload_n (pc := 15) (j := 0) dX10_init_15 rfl rfl ?_
  refine kw_bipush (pc := 16) (v := 25) dX10_init_16 rfl ?_
  refine kw_newI (pc := 18) (N := 25) dX10_init_18 (by decide) (by decide) (by decide) (Nat.le_of_ble_eq_true rfl) (Nat.le_of_ble_eq_true rfl) aw_I (fun q1 => ?_)
  refine kw_ws (ws' := (h0, .inr (10, [.ref q0, .null, .null])) :: (w0 ++ ([(q1, .inl (x.2.2.1 20, 25, .inl (fun _ => 0)))]))) (by simp only [List.append_assoc, List.cons_append, List.nil_append]) ?_
  refine kw_putF (pc := 20) (fs' := [.ref q0, .ref q1, .null]) dX10_init_20 fl_X10_18 kf_10_1 rfl rfl rfl (Nat.le_of_ble_eq_true rfl) rfl ?_
  refine kw_aload_n (pc := 23) (j := 0) dX10_init_23 rfl rfl ?_
  refine kw_new (pc := 24) (N := 10) dX10_init_24 kcl_3 rfl rfl cl_X10_22 (Nat.le_of_ble_eq_true rfl) (Nat.le_of_ble_eq_true rfl) (fun q2 => ?_)
  refine kw_dup (pc := 27) dX10_init_27 rfl ?_
  refine kw_initN (pc := 28) dX10_init_28 km_3 mi_X10_24 (Nat.le_of_ble_eq_true rfl) (Nat.le_of_ble_eq_true rfl) (Nat.le_of_ble_eq_true rfl) (c_X3 (p := (p + 11)) (fun i hi => by have := hz (11 + i) (by omega); rw [← Nat.add_assoc] at this; exact this)) (fun w1 hw1 => ?_)
  refine kw_ws (ws' := (h0, .inr (10, [.ref q0, .ref q1, .null])) :: (w0 ++ ((q1, .inl (x.2.2.1 20, 25, .inl (fun _ => 0))) :: (w1)))) (by simp only [List.append_assoc, List.cons_append, List.nil_append]) ?_
  refine kw_putF (pc := 31) (fs' := [.ref q0, .ref q1, .ref q2]) dX10_init_31 fl_X10_25 kf_10_2 rfl rfl rfl (Nat.le_of_ble_eq_true rfl) rfl ?_
  refine kw_vret (pc := 34) dX10_init_34 rfl rfl rfl ⟨rfl, ?_⟩
  obtain ⟨ad0, ha0, he0⟩ := hw0
  obtain ⟨ad1, ha1, he1⟩ := hw1
  obtain ⟨ad, hA⟩ : ∃ ad : Nat → Nat, ∀ i, ad (p + i) = if i < 1 then h0 else if i < 10 then ad0 (p + i) else if i < 11 then q1 else ad1 (p + i) := ⟨fun k => if (k - p) < 1 then h0 else if (k - p) < 10 then ad0 k else if (k - p) < 11 then q1 else ad1 k, fun i => by simp only [Nat.add_sub_cancel_left]⟩
  have e0 : ad (p + 0) = h0 := by rw [hA]; rfl
  have e1 : ad (p + 1) = q0 := by rw [hA, ← ha0]; rfl
  have e10 : ad (p + 10) = q1 := by rw [hA]; rfl
  have e11 : ad (p + 11) = q2 := by rw [hA, ← ha1]; rfl
  have c0 : jw (kj x ad0) (jsh (p + 1) ft5) M = jw (kj x ad) (jsh (p + 1) ft5) M := jw_cong (n := 9) (by decide +kernel) (fun q hq h => absurd h ((by decide : ∀ q ∈ ft5, q.2.1 ≠ 7) q hq)) (fun i hi => by rw [Nat.add_assoc, hA, if_neg (by omega), if_pos (by omega)])
  have c1 : jw (kj x ad1) (jsh (p + 11) ft3) M = jw (kj x ad) (jsh (p + 11) ft3) M := jw_cong (n := 8) (by decide +kernel) (fun q hq h => absurd h ((by decide : ∀ q ∈ ft3, q.2.1 ≠ 7) q hq)) (fun i hi => by rw [Nat.add_assoc, hA, if_neg (by omega), if_neg (by omega), if_neg (by omega)])
  have f0 : jfs ad M 10 (p + 0) = [.ref q0, .ref q1, .ref q2] := by
    show ([.ref (ad (p + 1)), .ref (ad (p + 10)), .ref (ad (p + 11))] : List Value) = _
    simp only [show M.1 p = _ from (hz 0 (by decide)).1, show M.2 p = _ from (hz 0 (by decide)).2, show ad (p + 1) = _ from e1, show ad (p + 10) = _ from e10, show ad (p + 11) = _ from e11]
  refine ⟨ad, e0, ?_⟩
  have ht : jsh p ft10 = (p + 0, 10, 3) :: (jsh (p + 1) ft5 ++ ((p + 10, 20, 25) :: (jsh (p + 11) ft3))) := rfl
  rw [ht]
  rw [jw_cons, jw_app, jw_cons]
  rw [je_o (by decide) f0, ← c0, ← he0, je_20 (hz 10 (by decide)).1, ← c1, ← he1]
  show _ = ((ad (p + 0), .inr (10, [.ref q0, .ref q1, .ref q2])) :: (w0 ++ ((ad (p + 10), .inl (x.2.2.1 20, 25, .inl (fun _ => 0))) :: (w1))) : va_W)
  rw [e0, e10]
