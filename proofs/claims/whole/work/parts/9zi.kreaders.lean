/-! the constructors of the readers, of the whole, of the model -/
theorem t7 {p : Nat} {M : jM} (hp : p < 1000) (h1 : M.1 p = fun k => if k = 9 then nI (p + 2) else 0) : ∀ q ∈ ft7, q.2.1 = 7 → (M.1 (p + q.1) 9).toNatClampNeg = p + (q.1 + 2) := by
  intro q hq h
  have e : q.1 = 0 := (by decide : ∀ q ∈ ft7, q.2.1 = 7 → q.1 = 0) q hq h
  rw [e]
  show (M.1 p 9).toNatClampNeg = p + (0 + 2)
  rw [h1]
  exact nI_clamp (by omega)
theorem t6 {p : Nat} {M : jM} (hp : p < 900) (h1 : M.1 (p + 10) = fun k => if k = 9 then nI (p + 10 + 2) else 0) : ∀ q ∈ ft6, q.2.1 = 7 → (M.1 (p + q.1) 9).toNatClampNeg = p + (q.1 + 2) := by
  intro q hq h
  have e : q.1 = 10 := (by decide : ∀ q ∈ ft6, q.2.1 = 7 → q.1 = 10) q hq h
  rw [e, h1]
  exact nI_clamp (by omega)
theorem t4 {p : Nat} {M : jM} (hp : p < 900) (h1 : M.1 (p + 9) = fun k => if k = 9 then nI (p + 9 + 2) else 0) : ∀ q ∈ ft4, q.2.1 = 7 → (M.1 (p + q.1) 9).toNatClampNeg = p + (q.1 + 2) := by
  intro q hq h
  have e : q.1 = 9 := (by decide : ∀ q ∈ ft4, q.2.1 = 7 → q.1 = 9) q hq h
  rw [e, h1]
  exact nI_clamp (by omega)
theorem je_24 {x : kX} {ad : Nat → Nat} {M : jM} {q n : Nat} : jent (kj x ad) M (q, 24, n) = .inl (x.2.2.1 24, n, .inr (.inr (.inr (.inr (fun i => some (ad (jel 24 q i))))))) := jent_r (by decide)
theorem je_25 {x : kX} {ad : Nat → Nat} {M : jM} {q n : Nat} : jent (kj x ad) M (q, 25, n) = .inl (x.2.2.1 25, n, .inr (.inr (.inr (.inr (fun i => some (ad (jel 25 q i))))))) := jent_r (by decide)
set_option maxRecDepth 20000 in
set_option maxHeartbeats 1000000 in
theorem c_X6 {x : kX} {d h0 p : Nat} {M : jM} (hp : p < 900) (hz : ∀ i, i < 10 → M.1 (p + i) = (fun _ => 0) ∧ M.2 (p + i) = (fun _ => 0)) (h1 : M.1 (p + 10) = fun k => if k = 9 then nI (p + 10 + 2) else 0) (h2 : M.2 (p + 10) = fun _ => 0) (h3 : M.2 (p + 10 + 1) = qWord) (h4 : M.1 (p + 10 + 2) = fun _ => 0) : KC x mX6_init (d + 5) 12 403 [.ref h0] [(h0, .inr (6, zX6))] (fun w r => r = none ∧ kI x p h0 ft6 M w) := by
  refine KC.of (by decide +kernel) (Nat.le_of_ble_eq_true rfl) ?_
  refine kw_ls (ls' := [(0, .ref h0)]) rfl ?_
  refine kw_ws (ws' := [(h0, .inr (6, [.null, .null, .int 0, .int 0, .int 0]))]) rfl ?_
  refine kw_aload_n (pc := 0) (j := 0) dX6_init_0 rfl rfl ?_
  refine kw_obj (pc := 1) dX6_init_1 ob_X6 ob_i ob_c (Nat.le_of_ble_eq_true rfl) ?_
  refine kw_aload_n (pc := 4) (j := 0) dX6_init_4 rfl rfl ?_
  refine kw_new (pc := 5) (N := 13) dX6_init_5 kcl_5 rfl rfl cl_X6_9 (Nat.le_of_ble_eq_true rfl) (Nat.le_of_ble_eq_true rfl) (fun q0 => ?_)
  refine kw_dup (pc := 8) dX6_init_8 rfl ?_
  refine kw_initN (pc := 9) dX6_init_9 km_5 mi_X6_11 (Nat.le_of_ble_eq_true rfl) (Nat.le_of_ble_eq_true rfl) (Nat.le_of_ble_eq_true rfl) (c_X5 (p := (p + 1)) (fun i hi => by have := hz (1 + i) (by omega); rw [← Nat.add_assoc] at this; exact this)) (fun w0 hw0 => ?_)
  refine kw_ws (ws' := (h0, .inr (6, [.null, .null, .int 0, .int 0, .int 0])) :: (w0)) (by simp only [List.append_assoc, List.cons_append, List.nil_append]) ?_
  refine kw_putF (pc := 12) (fs' := [.ref q0, .null, .int 0, .int 0, .int 0]) dX6_init_12 fl_X6_12 kf_6_0 rfl rfl rfl (Nat.le_of_ble_eq_true rfl) rfl ?_
  refine kw_aload_n (pc := 15) (j := 0) dX6_init_15 rfl rfl ?_
  refine kw_new (pc := 16) (N := 14) dX6_init_16 kcl_7 rfl rfl cl_X6_18 (Nat.le_of_ble_eq_true rfl) (Nat.le_of_ble_eq_true rfl) (fun q1 => ?_)
  refine kw_dup (pc := 19) dX6_init_19 rfl ?_
  refine kw_init (pc := 20) dX6_init_20 km_7 ml_X6_20 (Nat.le_of_ble_eq_true rfl) (Nat.le_of_ble_eq_true rfl) (Nat.le_of_ble_eq_true rfl) (c_X7 (p := (p + 10)) (by omega) h1 h2 h3 h4) (fun w1 hw1 => ?_)
  refine kw_ws (ws' := (h0, .inr (6, [.ref q0, .null, .int 0, .int 0, .int 0])) :: (w0 ++ (w1))) (by simp only [List.append_assoc, List.cons_append, List.nil_append]) ?_
  refine kw_putF (pc := 23) (fs' := [.ref q0, .ref q1, .int 0, .int 0, .int 0]) dX6_init_23 fl_X6_21 kf_6_1 rfl rfl rfl (Nat.le_of_ble_eq_true rfl) rfl ?_
  refine kw_vret (pc := 26) dX6_init_26 rfl rfl rfl ⟨rfl, ?_⟩
  obtain ⟨ad0, ha0, he0⟩ := hw0
  obtain ⟨ad1, ha1, he1⟩ := hw1
  obtain ⟨ad, hA⟩ : ∃ ad : Nat → Nat, ∀ i, ad (p + i) = if i < 1 then h0 else if i < 10 then ad0 (p + i) else ad1 (p + i) := ⟨fun k => if (k - p) < 1 then h0 else if (k - p) < 10 then ad0 k else ad1 k, fun i => by simp only [Nat.add_sub_cancel_left]⟩
  have e0 : ad (p + 0) = h0 := by rw [hA]; rfl
  have e1 : ad (p + 1) = q0 := by rw [hA, ← ha0]; rfl
  have e10 : ad (p + 10) = q1 := by rw [hA, ← ha1]; rfl
  have c0 : jw (kj x ad0) (jsh (p + 1) ft5) M = jw (kj x ad) (jsh (p + 1) ft5) M := jw_cong (n := 9) (by decide +kernel) (fun q hq h => absurd h ((by decide : ∀ q ∈ ft5, q.2.1 ≠ 7) q hq)) (fun i hi => by rw [Nat.add_assoc, hA, if_neg (by omega), if_pos (by omega)])
  have c1 : jw (kj x ad1) (jsh (p + 10) ft7) M = jw (kj x ad) (jsh (p + 10) ft7) M := jw_cong (n := 3) (by decide +kernel) (t7 (by omega) h1) (fun i hi => by rw [Nat.add_assoc, hA, if_neg (by omega), if_neg (by omega)])
  have f0 : jfs ad M 6 (p + 0) = [.ref q0, .ref q1, .int 0, .int 0, .int 0] := by
    show ([.ref (ad (p + 1)), .ref (ad (p + 10)), .int (M.1 p 2), .int (M.1 p 3), .int (M.1 p 4)] : List Value) = _
    simp only [show M.1 p = _ from (hz 0 (by decide)).1, show M.2 p = _ from (hz 0 (by decide)).2, show ad (p + 1) = _ from e1, show ad (p + 10) = _ from e10]
  refine ⟨ad, e0, ?_⟩
  have ht : jsh p ft6 = (p + 0, 6, 5) :: (jsh (p + 1) ft5 ++ (jsh (p + 10) ft7)) := rfl
  rw [ht]
  rw [jw_cons, jw_app]
  rw [je_o (by decide) f0, ← c0, ← he0, ← c1, ← he1]
  show _ = ((ad (p + 0), .inr (6, [.ref q0, .ref q1, .int 0, .int 0, .int 0])) :: (w0 ++ (w1)) : va_W)
  rw [e0]
set_option maxRecDepth 20000 in
set_option maxHeartbeats 1000000 in
theorem c_X4 {x : kX} {d h0 p : Nat} {M : jM} (hp : p < 900) (hz : ∀ i, i < 9 → M.1 (p + i) = (fun _ => 0) ∧ M.2 (p + i) = (fun _ => 0)) (h1 : M.1 (p + 9) = fun k => if k = 9 then nI (p + 9 + 2) else 0) (h2 : M.2 (p + 9) = fun _ => 0) (h3 : M.2 (p + 9 + 1) = qWord) (h4 : M.1 (p + 9 + 2) = fun _ => 0) (h5 : M.1 (p + 12) = fun _ => 0) : KC x mX4_init (d + 5) 12 473 [.ref h0] [(h0, .inr (4, zX4))] (fun w r => r = none ∧ kI x p h0 ft4 M w) := by
  refine KC.of (by decide +kernel) (Nat.le_of_ble_eq_true rfl) ?_
  refine kw_ls (ls' := [(0, .ref h0)]) rfl ?_
  refine kw_ws (ws' := [(h0, .inr (4, [.null, .null, .null, .int 0]))]) rfl ?_
  refine kw_aload_n (pc := 0) (j := 0) dX4_init_0 rfl rfl ?_
  refine kw_obj (pc := 1) dX4_init_1 ob_X4 ob_i ob_c (Nat.le_of_ble_eq_true rfl) ?_
  refine kw_aload_n (pc := 4) (j := 0) dX4_init_4 rfl rfl ?_
  refine kw_new (pc := 5) (N := 10) dX4_init_5 kcl_3 rfl rfl cl_X4_9 (Nat.le_of_ble_eq_true rfl) (Nat.le_of_ble_eq_true rfl) (fun q0 => ?_)
  refine kw_dup (pc := 8) dX4_init_8 rfl ?_
  refine kw_initN (pc := 9) dX4_init_9 km_3 mi_X4_11 (Nat.le_of_ble_eq_true rfl) (Nat.le_of_ble_eq_true rfl) (Nat.le_of_ble_eq_true rfl) (c_X3 (p := (p + 1)) (fun i hi => by have := hz (1 + i) (by omega); rw [← Nat.add_assoc] at this; exact this)) (fun w0 hw0 => ?_)
  refine kw_ws (ws' := (h0, .inr (4, [.null, .null, .null, .int 0])) :: (w0)) (by simp only [List.append_assoc, List.cons_append, List.nil_append]) ?_
  refine kw_putF (pc := 12) (fs' := [.ref q0, .null, .null, .int 0]) dX4_init_12 fl_X4_12 kf_4_0 rfl rfl rfl (Nat.le_of_ble_eq_true rfl) rfl ?_
  refine kw_aload_n (pc := 15) (j := 0) dX4_init_15 rfl rfl ?_
  refine kw_new (pc := 16) (N := 14) dX4_init_16 kcl_7 rfl rfl cl_X4_18 (Nat.le_of_ble_eq_true rfl) (Nat.le_of_ble_eq_true rfl) (fun q1 => ?_)
  refine kw_dup (pc := 19) dX4_init_19 rfl ?_
  refine kw_init (pc := 20) dX4_init_20 km_7 ml_X4_20 (Nat.le_of_ble_eq_true rfl) (Nat.le_of_ble_eq_true rfl) (Nat.le_of_ble_eq_true rfl) (c_X7 (p := (p + 9)) (by omega) h1 h2 h3 h4) (fun w1 hw1 => ?_)
  refine kw_ws (ws' := (h0, .inr (4, [.ref q0, .null, .null, .int 0])) :: (w0 ++ (w1))) (by simp only [List.append_assoc, List.cons_append, List.nil_append]) ?_
  refine kw_putF (pc := 23) (fs' := [.ref q0, .ref q1, .null, .int 0]) dX4_init_23 fl_X4_21 kf_4_1 rfl rfl rfl (Nat.le_of_ble_eq_true rfl) rfl ?_
  refine kw_aload_n (pc := 26) (j := 0) dX4_init_26 rfl rfl ?_
  refine kw_iconst (pc := 27) (v := 3) dX4_init_27 rfl ?_
  refine kw_newI (pc := 28) (N := 3) dX4_init_28 (by decide) (by decide) (by decide) (Nat.le_of_ble_eq_true rfl) (Nat.le_of_ble_eq_true rfl) aw_I (fun q2 => ?_)
  refine kw_ws (ws' := (h0, .inr (4, [.ref q0, .ref q1, .null, .int 0])) :: (w0 ++ (w1 ++ ([(q2, .inl (x.2.2.1 20, 3, .inl (fun _ => 0)))])))) (by simp only [List.append_assoc, List.cons_append, List.nil_append]) ?_
  refine kw_putF (pc := 30) (fs' := [.ref q0, .ref q1, .ref q2, .int 0]) dX4_init_30 fl_X4_25 kf_4_2 rfl rfl rfl (Nat.le_of_ble_eq_true rfl) rfl ?_
  refine kw_vret (pc := 33) dX4_init_33 rfl rfl rfl ⟨rfl, ?_⟩
  obtain ⟨ad0, ha0, he0⟩ := hw0
  obtain ⟨ad1, ha1, he1⟩ := hw1
  obtain ⟨ad, hA⟩ : ∃ ad : Nat → Nat, ∀ i, ad (p + i) = if i < 1 then h0 else if i < 9 then ad0 (p + i) else if i < 12 then ad1 (p + i) else q2 := ⟨fun k => if (k - p) < 1 then h0 else if (k - p) < 9 then ad0 k else if (k - p) < 12 then ad1 k else q2, fun i => by simp only [Nat.add_sub_cancel_left]⟩
  have e0 : ad (p + 0) = h0 := by rw [hA]; rfl
  have e1 : ad (p + 1) = q0 := by rw [hA, ← ha0]; rfl
  have e9 : ad (p + 9) = q1 := by rw [hA, ← ha1]; rfl
  have e12 : ad (p + 12) = q2 := by rw [hA]; rfl
  have c0 : jw (kj x ad0) (jsh (p + 1) ft3) M = jw (kj x ad) (jsh (p + 1) ft3) M := jw_cong (n := 8) (by decide +kernel) (fun q hq h => absurd h ((by decide : ∀ q ∈ ft3, q.2.1 ≠ 7) q hq)) (fun i hi => by rw [Nat.add_assoc, hA, if_neg (by omega), if_pos (by omega)])
  have c1 : jw (kj x ad1) (jsh (p + 9) ft7) M = jw (kj x ad) (jsh (p + 9) ft7) M := jw_cong (n := 3) (by decide +kernel) (t7 (by omega) h1) (fun i hi => by rw [Nat.add_assoc, hA, if_neg (by omega), if_neg (by omega), if_pos (by omega)])
  have f0 : jfs ad M 4 (p + 0) = [.ref q0, .ref q1, .ref q2, .int 0] := by
    show ([.ref (ad (p + 1)), .ref (ad (p + 9)), .ref (ad (p + 12)), .int (M.1 p 3)] : List Value) = _
    simp only [show M.1 p = _ from (hz 0 (by decide)).1, show M.2 p = _ from (hz 0 (by decide)).2, show ad (p + 1) = _ from e1, show ad (p + 9) = _ from e9, show ad (p + 12) = _ from e12]
  refine ⟨ad, e0, ?_⟩
  have ht : jsh p ft4 = (p + 0, 4, 4) :: (jsh (p + 1) ft3 ++ (jsh (p + 9) ft7 ++ ((p + 12, 20, 3) :: ([])))) := rfl
  rw [ht]
  rw [jw_cons, jw_app, jw_app, jw_cons, jw_nil]
  rw [je_o (by decide) f0, ← c0, ← he0, ← c1, ← he1, je_20 h5]
  show _ = ((ad (p + 0), .inr (4, [.ref q0, .ref q1, .ref q2, .int 0])) :: (w0 ++ (w1 ++ ((ad (p + 12), .inl (x.2.2.1 20, 3, .inl (fun _ => 0))) :: ([])))) : va_W)
  rw [e0, e12]
