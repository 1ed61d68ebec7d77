/-! the law from its start -/
section LST
variable {p : Program} {e : Env} {s : State} {m : MethodId} {below : List Frame} {meth : Method} {c : Code} {b L : Nat} {xs : Nat → Int32}
set_option maxRecDepth 20000 in
theorem l_classes {args : Array Value} {s : State} (hts : ∀ w ∈ lw_tbl, w.before args s = true) : ∃ D : va_G, ∀ (k : Nat) (q : vw_C), vwCl[k]? = some q → u_Kn s q.1 q.2.1 q.2.2 (D.1 k) (D.2 k) := by
  have ht : ∀ w ∈ jtbl, w.before args s = true := fun w hw => hts w (jtbl_lw hw)
  obtain ⟨c0, f0, h0⟩ := u_known (C := RX0) (T := TX0) (N := 8) (n := 8) ht jin0 (ht _ (jt2 181 rfl rfl))
  obtain ⟨c1, f1, h1⟩ := u_known (C := RX1) (T := TX1) (N := 10) (n := 10) ht jin1 (ht _ (jt2 119 rfl rfl))
  obtain ⟨c2, f2, h2⟩ := u_known (C := RX2) (T := TX2) (N := 6) (n := 6) ht jin2 (ht _ (jt2 216 rfl rfl))
  obtain ⟨c3, f3, h3⟩ := u_known (C := RX3) (T := TX3) (N := 10) (n := 10) ht jin3 (ht _ (jt2 16 rfl rfl))
  obtain ⟨c4, f4, h4⟩ := u_known (C := RX4) (T := TX4) (N := 4) (n := 4) ht jin4 (ht _ (jt2 10 rfl rfl))
  obtain ⟨c5, f5, h5⟩ := u_known (C := RX5) (T := TX5) (N := 13) (n := 13) ht jin5 (ht _ (jt1 39 rfl rfl))
  obtain ⟨c6, f6, h6⟩ := u_known (C := RX6) (T := TX6) (N := 5) (n := 5) ht jin6 (ht _ (jt1 33 rfl rfl))
  obtain ⟨c7, f7, h7⟩ := u_known (C := RX7) (T := TX7) (N := 14) (n := 14) ht jin7 (ht _ (jt1 122 rfl rfl))
  obtain ⟨c8, f8, h8⟩ := u_known (C := RX8) (T := TX8) (N := 7) (n := 7) ht jin8 (ht _ (jt2 113 rfl rfl))
  obtain ⟨c9, f9, h9⟩ := u_known (C := RX9) (T := TX9) (N := 4) (n := 4) ht jin9 (ht _ (jt3 4 rfl rfl))
  obtain ⟨c10, f10, h10⟩ := u_known (C := RX10) (T := TX10) (N := 3) (n := 3) ht jin10 (ht _ (jt2 89 rfl rfl))
  obtain ⟨c11, f11, h11⟩ := u_known (C := RX11) (T := TX11) (N := 17) (n := 17) ht jin11 (ht _ (jt1 23 rfl rfl))
  obtain ⟨c12, f12, h12⟩ := u_known (C := RX12) (T := TX12) (N := 54) (n := 54) ht jin12 (ht _ (jt6 103 rfl rfl))
  refine ⟨(fun k => [c0, c1, c2, c3, c4, c5, c6, c7, c8, c9, c10, c11, c12].getD k c0, fun k => [f0, f1, f2, f3, f4, f5, f6, f7, f8, f9, f10, f11, f12].getD k f0), ?_⟩
  intro k q hq
  have hk : k < 13 := (List.getElem?_eq_some_iff.mp hq).1
  rcases (by omega : k = 0 ∨ k = 1 ∨ k = 2 ∨ k = 3 ∨ k = 4 ∨ k = 5 ∨ k = 6 ∨ k = 7 ∨ k = 8 ∨ k = 9 ∨ k = 10 ∨ k = 11 ∨ k = 12) with rfl | rfl | rfl | rfl | rfl | rfl | rfl | rfl | rfl | rfl | rfl | rfl | rfl
  · cases hq; exact h0
  · cases hq; exact h1
  · cases hq; exact h2
  · cases hq; exact h3
  · cases hq; exact h4
  · cases hq; exact h5
  · cases hq; exact h6
  · cases hq; exact h7
  · cases hq; exact h8
  · cases hq; exact h9
  · cases hq; exact h10
  · cases hq; exact h11
  · cases hq; exact h12
theorem l_arr {args : Array Value} {s : State} {ty : FieldType} (h : (Cond.arrayClass ty).before args s = true) (hn : ∀ C, ty ≠ .object C) : ∃ cA, ArrOfT s cA ty ∧ va_RA s cA ty := by
  obtain ⟨cA, kA, comp, h1, h2, h3⟩ := Cond.arrayClass_spec h
  refine ⟨cA, fun n z => ⟨fun k h => (by cases h), kA, h2, comp, h3⟩, ?_⟩
  cases ty with
  | object C => exact absurd rfl (hn C)
  | _ => exact h1
theorem l_arrO {args : Array Value} {s : State} {C : String} (h : (Cond.arrayOver (.object C)).before args s = true) : ∃ cA, ArrOfT s cA (.object C) ∧ va_RA s cA (.object C) := by
  obtain ⟨comp, cA, kA, h1, -, h2, h3, h4⟩ := Cond.arrayOver_spec h
  exact ⟨cA, fun n z => ⟨fun k h => (by cases h), kA, h2, comp, h3⟩, kA, comp, h2, h3, h1, h4⟩
set_option maxRecDepth 20000 in
theorem l_arrays {args : Array Value} {s : State} (hts : ∀ w ∈ lw_tbl, w.before args s = true) : ∃ dA : Nat → ClassId, ∀ (k : Nat) (q : ClassId × FieldType), (jtys dA)[k]? = some q → ArrOfT s q.1 q.2 ∧ va_RA s q.1 q.2 := by
  have ht : ∀ w ∈ jtbl, w.before args s = true := fun w hw => hts w (jtbl_lw hw)
  obtain ⟨a0, h0⟩ := l_arr (ht _ aw_I) (fun _ h => by cases h)
  obtain ⟨a1, h1⟩ := l_arr (ht _ aw_B) (fun _ h => by cases h)
  obtain ⟨a2, h2⟩ := l_arr (ht _ aw_Z) (fun _ h => by cases h)
  obtain ⟨a3, h3⟩ := l_arr (ht _ aw_L) (fun _ h => by cases h)
  obtain ⟨a4, h4⟩ := l_arrO (C := "NineSights$Tray") (hts _ (List.mem_append_right _ (jtm1 (List.mem_of_getElem? (i := 31) rfl))))
  obtain ⟨a5, h5⟩ := l_arrO (C := "NineSights$World") (hts _ (List.mem_append_right _ (jtm2 (List.mem_of_getElem? (i := 111) rfl))))
  refine ⟨fun k => [a0, a1, a2, a3, a4, a5].getD (k - 20) a0, fun k q hq => ?_⟩
  have hk : k < 6 := (List.getElem?_eq_some_iff.mp hq).1
  rcases (by omega : k = 0 ∨ k = 1 ∨ k = 2 ∨ k = 3 ∨ k = 4 ∨ k = 5) with rfl | rfl | rfl | rfl | rfl | rfl
  · cases hq; exact h0
  · cases hq; exact h1
  · cases hq; exact h2
  · cases hq; exact h3
  · cases hq; exact h4
  · cases hq; exact h5
theorem l_el : ∀ j, j < 114 → Cond.eq (.elem (.field (.string "NineSights$Reader" 19) "java/lang/String" "value" "[B") (.int (Int32.ofNat j))) (.int (kbt.getD j 0)) ∈ flatC (Jvm.Cond.and given_1 narrow_1) := by decide +kernel
set_option maxRecDepth 20000 in
theorem l_env {s : State} (hts : ∀ w ∈ lw_tbl, w.before #[Value.ref b] s = true) (hgv : (Jvm.Cond.and given_1 narrow_1).before #[Value.ref b] s = true) (l : Launch) (D : va_G) (dA : Nat → ClassId) : ∃ q : Nat × Nat × Option Nat, kEv (l, D, dA, q) (fun q => s.heap.size ≤ q) s := by
  have hs := flat_of_before _ hgv
  have hA : ∀ a : Nat, a < s.heap.size → ¬ (fun q => s.heap.size ≤ q) a := fun a h => Nat.not_le.mpr h
  obtain ⟨aK, aV, hS, hE⟩ := vk_Sof (args := #[Value.ref b]) (s := s) (N := 1) (tm := fun _ => .string "NineSights$Reader" 19) (len := [114]) (byt := [kbt]) (A := fun q => s.heap.size ≤ q)
    (fun i hi => by obtain rfl : i = 0 := by omega
                    decide) (fun i hi => hs _ (by decide +kernel)) (fun i hi => hs _ (by decide +kernel)) (fun i hi => hs _ (by decide +kernel)) (fun i hi => by
      obtain rfl : i = 0 := by omega
      exact hs (Cond.eq (.length (.field (.string "NineSights$Reader" 19) "java/lang/String" "value" "[B")) (.int 114)) (by decide +kernel)) (fun i hi j hj => by
      obtain rfl : i = 0 := by omega
      exact hs _ (l_el j hj)) (fun i j hi hj h => absurd (by omega : i = j) h) hA
  have hR := vk_R.of (own := RX7) (k := 19) (tx := ktx) (a := aK 0) (A := #[Value.ref b]) (U := s) (hts _ (List.mem_append_right _ (jtm1 (List.mem_of_getElem? (i := 127) rfl)))) (hE 0 (by decide))
  have hZ1 := va_Zof (C := "java/lang/String") (n := "COMPACT_STRINGS") (d := "Z") (v := .int 1) (A := fun q => s.heap.size ≤ q) (hts _ (List.mem_append_right _ (jtm1 (List.mem_of_getElem? (i := 137) rfl)))) (hts _ (List.mem_append_right _ (jtm1 (List.mem_of_getElem? (i := 5) rfl)))) (va_eqi (hs _ (by decide +kernel))) hA
  obtain ⟨v, hv, hr⟩ := Cond.isRef_spec (t := .static "jdk/internal/util/Preconditions" "SIOOBE_FORMATTER" "Ljava/util/function/BiFunction;") (hs _ (by decide +kernel))
  obtain ⟨o, rfl⟩ : ∃ o : Option Nat, v = va_rf o := by
    cases v with
    | null => exact ⟨none, rfl⟩
    | ref a => exact ⟨some a, rfl⟩
    | _ => cases hr
  have hZ2 := va_Zof (C := "jdk/internal/util/Preconditions") (n := "SIOOBE_FORMATTER") (d := "Ljava/util/function/BiFunction;") (v := va_rf o) (A := fun q => s.heap.size ≤ q) (hts _ (List.mem_append_right _ (jtm1 (List.mem_of_getElem? (i := 153) rfl)))) (hts _ (List.mem_append_right _ (jtm1 (List.mem_of_getElem? (i := 7) rfl)))) hv hA
  refine ⟨(aK 0, aV 0, o), jN.of hts, va_AO.of (hts _ (List.mem_append_right _ (jtm1 (List.mem_of_getElem? (i := 31) rfl)))), va_AO.of (hts _ (List.mem_append_right _ (jtm2 (List.mem_of_getElem? (i := 111) rfl)))), hR, ⟨fun i hi => ?_, fun i j hi hj _ => by omega⟩, hZ1, hZ2⟩
  obtain rfl : i = 0 := by omega
  exact hS.1 0 hi
theorem l_init {x : kX} {d mc2 ms2 nc ns idx bq pc : Nat} {m2 : jMI} {Q3 : va_W → Prop} {wr : va_W} {e2 : va_E} {H : Heap} {locs : List Loc} {la : Array Slot} {st : List Value} (C0 : lw_At p s m meth c b L xs) (hK : va_K x.2.1 vwCl (jtys x.2.2.1) s) (hE : kEv x (fun q => s.heap.size ≤ q) s)
    (hP : va_P x.2.1 vwCl (wr ++ [(bq, e2)]) H) (hD : va_D (fun q => s.heap.size ≤ q) (wr ++ [(bq, e2)])) (hS : va_S (fun q => s.heap.size ≤ q) s.heap H locs) (hla : la.size = 4)
    (hd : decode code pc = .ok (.invokespecial idx, 3)) (hm : kmI m2) (hl : Cond.methodLink RL idx m2.1 ∈ jtbl) (hw : (st.map fun v => v.category).sum ≤ 8) (hc1 : nc + mc2 ≤ 600000) (hs1 : ns + ms2 ≤ 7302250) (hdd : d ≤ 100)
    (hC : KC x m2 d mc2 ms2 [.ref bq] [(bq, e2)] (fun w r => r = none ∧ Q3 w))
    (kk : ∀ (w : va_W) (H1 : Heap) (locs1 : List Loc), Q3 w → va_P x.2.1 vwCl (wr ++ w) H1 → va_D (fun q => s.heap.size ≤ q) (wr ++ w) → va_S (fun q => s.heap.size ≤ q) s.heap H1 locs1 → W p x.1 e room_1 s m #[Value.ref b] below meth c H1 locs1 (nc + mc2) (ns + ms2) (lw_Z below #[Value.ref b] s) (F0 m (pc + 3) la st)) :
    W p x.1 e room_1 s m #[Value.ref b] below meth c H locs nc ns (lw_Z below #[Value.ref b] s) (F0 m pc la (.ref bq :: st)) := by
  obtain ⟨hx, hb, hr, hml, hown, hts0, hX, hbl, hlocks, hgv⟩ := id C0
  have hts : ∀ w ∈ jtbl, w.before #[Value.ref b] s = true := fun w hw => hts0 w (jtbl_lw hw)
  obtain ⟨g1, g2, g3, g4, g5, g6, g7⟩ := hm
  have hG := jgood m2 g1
  rw [g7] at hG g1
  have hM := hC H.size
  rw [g7] at hM
  have hfr := k_free hD hS (fun _ h => h)
  have hrun := va_runI (e := e) (locs := locs) (cells := nc) (slots := ns) (below := below) (meth := meth) (R := room_1) (H := H) (b := bq) (As := []) (rest := st) (g := F0 m pc la (.ref bq :: st)) (cc := code) (nL := 4) (Ts := jtbl) (own := RL) (index := idx) (n := 0) (bytes := m2.2.1) (maxL := m2.2.2.1) ⟨hx, hb, hml, hown, hts⟩ hM
    ⟨callB_of 0 hts hG rfl rfl rfl (hts _ g2) (hts _ hl) g3 ⟨by show d + 1 ≤ 2048; omega, by show 8 + (m2.2.2.1 + 11) + 50 * d ≤ 84000; omega⟩, g6, hts _ g5⟩
    ⟨fun a U g mk q => by obtain ⟨q0, q1, qP, qK, qD, qN⟩ := q; exact ⟨q0, q1, qP, va_K.moved (u := U) (U := U.calling g mk a) (Vm.Alike.refl U.vm) qK, qD, qN.same rfl rfl⟩, fun U hU hW => ⟨rfl, by rw [hU], by rw [hU]; exact k_right hP, va_K.moved hW.alike hK, (k_rightD hD).weaken (fun _ _ _ _ => trivial), hE.call hS hfr hU hW⟩⟩ rfl rfl hla rfl (lv_room hw) hd ⟨hc1, hs1⟩
  intro T hT X
  obtain ⟨v, st₀, t, T', L, e0, X', hL, e1, e2, ⟨⟨r, w, hv, ⟨hr0, hq⟩, hP1, hK1, hD1⟩, hz, hk⟩, stp⟩ := hrun T hT X
  cases hv
  subst hr0
  rw [e0] at hz hk
  obtain ⟨hP', hD'⟩ := k_join hP hD hk hfr hP1 hD1
  have hS' : va_S (fun q => s.heap.size ≤ q) s.heap t.heap (locs ++ L) := ⟨Nat.le_trans hS.1 hz, fun q g1 g2 => by rw [hk q (Nat.lt_of_lt_of_le g1 hS.1) (fun z => g2 (hfr q z))]; exact hS.2.1 q g1 g2, fun q hq => by
    rcases List.mem_append.mp hq with h | h
    · exact hS.2.2 q h
    · exact hfr _ (hL q h)⟩
  obtain ⟨t2, a1, b1⟩ := kk w t.heap (locs ++ L) hq hP' hD' hS' T' e1 X'
  exact ⟨t2, stp t2 a1, b1⟩
end LST
