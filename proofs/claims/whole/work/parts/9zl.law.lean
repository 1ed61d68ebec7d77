/-! the law -/
def R_law : String := "NineSightsLaw"
def lw_P (b : Addr) (xs : List Int32) (args : Array Value) (s : State) : Prop := args = #[.ref b] ∧ s.IntsAt b xs ∧ xs.length ≤ 3072 ∧ (Jvm.Cond.and given_1 narrow_1).before args s = true
def lw_Q (_ : Array Value) (s : State) (o : Outcome) (t : State) : Prop := o = .returned (some (.int 1)) ∧ Framed s o t [] 600000 7302250
def lw_Z (below : List Frame) (a : Array Value) (s : State) : State → Prop := fun t => ∃ o, t.status = .running ∧ Ended t below o ∧ lw_Q a s o t
/-- the law's own end, with 1 on the stack, nothing written that was there before, its room as the claim has it -/
theorem lw_ret {p : Program} {l : Launch} {e : Env} {s : State} {m : MethodId} {below : List Frame} {meth : Method} {c : Code} {b : Nat} (hx : p.tables.exec = Jvm.exec) (hb : c.code = code) (hr : meth.sig.returnType = ret) (hlocks : meth.locks = false) {pc : Nat} {H : Heap} {ls : Array Slot} (hdg : decode code pc = .ok (.ireturn, 1)) : W p l e room_1 s m #[Value.ref b] below meth c H [] 600000 7302250 (lw_Z below #[Value.ref b] s) (F0 m pc ls [.int 1]) := by
  intro T hT X
  obtain ⟨fs, hret, hrun, hended, hW, hframe⟩ := X.leave (v := some (.int 1)) (hlocks := hlocks) (fun h => by rw [hr] at h; cases h)
  have hmeth' : T.vm.method? m = some meth := X.method'
  refine ⟨T.setFrames fs, ?_, .returned (some (.int 1)), hrun, hended, rfl, ⟨_, rfl⟩, hW, hframe⟩
  jvm_step X.here [X.here.top, hx, hb, hdg, hmeth', hr, ret, narrow_b1]
  (try refine ⟨rfl, ?_⟩); (try refine ⟨rfl, ?_⟩)
  first | (intro acts; rw [hret _ acts rfl rfl rfl]) | rw [hret _ _ rfl rfl rfl]
  exact Steps.refl _
/-- what holds at the law's entry: the machine, the code, the tables' words (any of lw_tbl by 'hts w (by decide +kernel)'), the script of L ints xs at the cell b, what the Statement gives of the start (any of its parts by flat_of_before) -/
def lw_At (p : Program) (s : State) (m : MethodId) (meth : Method) (c : Code) (b L : Nat) (xs : Nat → Int32) : Prop :=
  p.tables.exec = Jvm.exec ∧ c.code = code ∧ meth.sig.returnType = ret ∧ c.maxLocals = 4 ∧ s.vm.findClass R_law = some m.cls ∧ (∀ w ∈ lw_tbl, w.before #[Value.ref b] s = true) ∧ va_X b L xs s s.heap ∧ b < s.heap.size ∧ meth.locks = false ∧ (Jvm.Cond.and given_1 narrow_1).before #[Value.ref b] s = true
def jy (x : jX) (ay : Nat → Nat) : jX := (x.1, x.2.1, x.2.2.1, ay)
/-- what holds of the law's start, and of the classes -/
def lCx (p : Program) (s : State) (m : MethodId) (meth : Method) (c : Code) (b L : Nat) (xs : Nat → Int32) (x : jX) (nc ns : Nat) : Prop := lw_At p s m meth c b L xs ∧ va_K x.2.1 vwCl (jtys x.2.2.1) s ∧ L ≤ 3072 ∧ nc ≤ 600000 ∧ ns ≤ 7302250
def LW (p : Program) (e : Env) (s : State) (m : MethodId) (below : List Frame) (meth : Method) (c : Code) (b nc ns : Nat) (x : jX) (ay : Nat → Nat) (pc : Nat) (ls : List (Nat × Value)) (st : List Value) (M N : jM) : Prop :=
  ∀ (H : Heap) (locs : List Loc) (la : Array Slot), va_P x.2.1 vwCl (jw x jtbC M ++ jw (jy x ay) jtbM N) H → va_D (fun q => s.heap.size ≤ q) (jw x jtbC M ++ jw (jy x ay) jtbM N) → va_S (fun q => s.heap.size ≤ q) s.heap H locs → lv_has la 4 ls →
    W p x.1 e room_1 s m #[Value.ref b] below meth c H locs nc ns (lw_Z below #[Value.ref b] s) (F0 m pc la st)
theorem k_swapP {D : va_G} {cl : List vw_C} {a b : va_W} {H : Heap} (h : va_P D cl (a ++ b) H) : va_P D cl (b ++ a) H := va_P.swap (a := []) (b := a) (c := b) h
theorem k_swapD {A : Nat → Prop} {a b : va_W} (h : va_D A (a ++ b)) : va_D A (b ++ a) := va_D.swap (a := []) (b := a) (c := b) h
section LWR
variable {p : Program} {e : Env} {s : State} {m : MethodId} {below : List Frame} {meth : Method} {c : Code} {b L nc ns : Nat} {xs : Nat → Int32} {x : jX} {ay : Nat → Nat} {pc : Nat} {ls : List (Nat × Value)} {st : List Value} {M N : jM}
theorem lgo {x2 : jX} {tb : jT} {wr wc : va_W} {Q2 : jM → Option Value → Prop} {H : Heap} {locs : List Loc} {la : Array Slot} {rest st0 : List Value} {av : Array Value} (h1 : x2.1 = x.1) (h2 : x2.2.1 = x.2.1)
    (hP : va_P x.2.1 vwCl (wr ++ wc) H) (hD : va_D (fun q => s.heap.size ≤ q) (wr ++ wc)) (hS : va_S (fun q => s.heap.size ≤ q) s.heap H locs)
    (hr : va_Run p x.1 e room_1 s m #[Value.ref b] below meth c H locs nc ns 0 0 (F0 m pc la st0) rest (jQ x2 tb (va_A wc H.size) Q2 av) (va_A wc H.size))
    (kk : ∀ (M' : jM) (r : Option Value) (H1 : Heap) (locs1 : List Loc), Q2 M' r → va_P x.2.1 vwCl (wr ++ jw x2 tb M') H1 → va_D (fun q => s.heap.size ≤ q) (wr ++ jw x2 tb M') → va_S (fun q => s.heap.size ≤ q) s.heap H1 locs1 → W p x.1 e room_1 s m #[Value.ref b] below meth c H1 locs1 nc ns (lw_Z below #[Value.ref b] s) (F0 m (pc + 3) la (r.toList ++ rest))) :
    W p x.1 e room_1 s m #[Value.ref b] below meth c H locs nc ns (lw_Z below #[Value.ref b] s) (F0 m pc la st0) := by
  have hfr := k_free hD hS (fun _ h => h)
  intro T hT X
  obtain ⟨v, st₀, t, T', L, e0, X', hL, e1, e2, ⟨⟨r, M', hv, hq, hP2, hK2, hD2⟩, hz, hk⟩, stp⟩ := hr T hT X
  cases hv
  rw [e0] at hz hk
  rw [h2] at hP2
  obtain ⟨hP', hD'⟩ := k_join hP hD hk hfr hP2 hD2
  have hS' : va_S (fun q => s.heap.size ≤ q) s.heap t.heap (locs ++ L) := ⟨Nat.le_trans hS.1 hz, fun q g1 g2 => by rw [hk q (Nat.lt_of_lt_of_le g1 hS.1) (fun z => g2 (hfr q z))]; exact hS.2.1 q g1 g2, fun q hq => by
    rcases List.mem_append.mp hq with h | h
    · exact hS.2.2 q h
    · exact hfr _ (hL q h)⟩
  obtain ⟨t2, a1, b1⟩ := kk M' v t.heap (locs ++ L) hq hP' hD' hS' T' e1 X'
  exact ⟨t2, stp t2 a1, b1⟩
theorem lts (C : lCx p s m meth c b L xs x nc ns) : ∀ w ∈ jtbl, w.before #[Value.ref b] s = true := fun w hw => C.1.2.2.2.2.2.1 w (jtbl_lw hw)
theorem ljN (C : lCx p s m meth c b L xs x nc ns) : jN s := jN.of C.1.2.2.2.2.2.1
theorem l_callC {na idx : Nat} {As : List Value} {m2 : jMI} {Q2 : jM → Option Value → Prop} (C : lCx p s m meth c b L xs x nc ns) (hd : decode code pc = .ok (.invokevirtual idx, 3)) (hm : jmV m2 na) (hq : m2.1.cls = RX11) (hl : Cond.methodLink RL idx m2.1 ∈ jtbl) (hn : As.length = na) (hw : (st.map fun v => v.category).sum ≤ 8)
    (hC : JC x jtbC m2 130 (.ref (x.2.2.2 0) :: As) M Q2) (kk : ∀ M' r, Q2 M' r → LW p e s m below meth c b nc ns x ay (pc + 3) ls (r.toList ++ st) M' N) : LW p e s m below meth c b nc ns x ay pc ls (As.reverse ++ .ref (x.2.2.2 0) :: st) M N := by
  intro H locs la hP hD hS hl4
  have hts := lts C
  obtain ⟨⟨hx, hb, hr, hml, hown, -, hX, hbl, hlocks, hgv⟩, hK, hL, hnc, hns⟩ := id C
  obtain ⟨⟨g1, g2, g3, g4⟩, g5, g6⟩ := hm
  have hPs := k_swapP hP
  have hDs := k_swapD hD
  have hfr := k_free hDs hS (fun _ h => h)
  refine lgo (x2 := x) (tb := jtbC) (Q2 := Q2) rfl rfl hPs hDs hS (va_runV (cc := code) (nL := 4) (Ts := jtbl) (own := RL) (C := m2.1.cls) (index := idx) (n := na) (bytes := m2.2.1) (maxL := m2.2.2.1) (ret := m2.2.2.2) ⟨hx, hb, hml, hown, hts⟩ (hC H.size) ⟨callB_of na hts (jgood m2 g1) rfl rfl rfl (hts _ g2) (hts _ hl) g3 ⟨Nat.le_of_ble_eq_true rfl, by show 8 + (m2.2.2.1 + 11) + 50 * 130 ≤ 84000; omega⟩, hts _ g5, hts _ g6⟩
    ⟨fun a U g mk q => by obtain ⟨q0, q1, qP, qK, qD, qN⟩ := q; exact ⟨q0, q1, qP, va_K.moved (u := U) (U := U.calling g mk a) (Vm.Alike.refl U.vm) qK, qD, jN.same (s := U) (U := U.calling g mk a) rfl qN⟩, ?_, fun U hU hW => ⟨rfl, by rw [hU], by rw [hU]; exact k_right hPs, va_K.moved hW.alike hK, (k_rightD hDs).weaken (fun _ _ _ _ => trivial), (ljN C).warm hW⟩⟩ rfl hn hl4.1 rfl (lv_room hw) hd ⟨hnc, hns⟩) (fun M' r H1 locs1 hq hP1 hD1 hS1 => kk M' r hq H1 locs1 la (k_swapP hP1) (k_swapD hD1) hS1 hl4)
  have hat := jw_at (x := x) (M := M) (show jtbC[0]? = some (0, 11, 17) from rfl)
  rw [jent_o (by decide)] at hat
  have := va_recv (q := (RX11, TX11, 17)) hK (k_right hPs) (ci := 11) rfl hat
  rw [hq]
  exact this
theorem l_callM {na idx : Nat} {As : List Value} {m2 : jMI} {Q2 : jM → Option Value → Prop} (C : lCx p s m meth c b L xs x nc ns) (hd : decode code pc = .ok (.invokevirtual idx, 3)) (hm : jmV m2 na) (hq : m2.1.cls = RX12) (hl : Cond.methodLink RL idx m2.1 ∈ jtbl) (hn : As.length = na) (hw : (st.map fun v => v.category).sum ≤ 8)
    (hC : JC (jy x ay) jtbM m2 130 (.ref (ay 0) :: As) N Q2) (kk : ∀ N' r, Q2 N' r → LW p e s m below meth c b nc ns x ay (pc + 3) ls (r.toList ++ st) M N') : LW p e s m below meth c b nc ns x ay pc ls (As.reverse ++ .ref (ay 0) :: st) M N := by
  intro H locs la hP hD hS hl4
  have hts := lts C
  obtain ⟨⟨hx, hb, hr, hml, hown, -, hX, hbl, hlocks, hgv⟩, hK, hL, hnc, hns⟩ := id C
  obtain ⟨⟨g1, g2, g3, g4⟩, g5, g6⟩ := hm
  have hfr := k_free hD hS (fun _ h => h)
  refine lgo (x2 := jy x ay) (tb := jtbM) (Q2 := Q2) rfl rfl hP hD hS (va_runV (cc := code) (nL := 4) (Ts := jtbl) (own := RL) (C := m2.1.cls) (index := idx) (n := na) (bytes := m2.2.1) (maxL := m2.2.2.1) (ret := m2.2.2.2) ⟨hx, hb, hml, hown, hts⟩ (hC H.size) ⟨callB_of na hts (jgood m2 g1) rfl rfl rfl (hts _ g2) (hts _ hl) g3 ⟨Nat.le_of_ble_eq_true rfl, by show 8 + (m2.2.2.1 + 11) + 50 * 130 ≤ 84000; omega⟩, hts _ g5, hts _ g6⟩
    ⟨fun a U g mk q => by obtain ⟨q0, q1, qP, qK, qD, qN⟩ := q; exact ⟨q0, q1, qP, va_K.moved (u := U) (U := U.calling g mk a) (Vm.Alike.refl U.vm) qK, qD, jN.same (s := U) (U := U.calling g mk a) rfl qN⟩, ?_, fun U hU hW => ⟨rfl, by rw [hU], by rw [hU]; exact k_right hP, va_K.moved hW.alike hK, (k_rightD hD).weaken (fun _ _ _ _ => trivial), (ljN C).warm hW⟩⟩ rfl hn hl4.1 rfl (lv_room hw) hd ⟨hnc, hns⟩) (fun N' r H1 locs1 hq hP1 hD1 hS1 => kk N' r hq H1 locs1 la hP1 hD1 hS1 hl4)
  have hat := jw_at (x := jy x ay) (M := N) (show jtbM[0]? = some (0, 12, 54) from rfl)
  rw [jent_o (by decide)] at hat
  have := va_recv (q := (RX12, TX12, 54)) hK (k_right hP) (ci := 12) rfl hat
  rw [hq]
  exact this
def lL (x : jX) (ay : Nat → Nat) (b i : Nat) : List (Nat × Value) := [(0, .ref b), (1, .ref (x.2.2.2 0)), (2, .ref (ay 0)), (3, .int (nI i))]
/-- a number of the script -/
theorem l_arg {k : Int} {i j : Nat} (C : lCx p s m meth c b L xs x nc ns) (h0 : decode code pc = .ok (.aload_n 0, 1)) (h1 : decode code (pc + 1) = .ok (.iload_n 3, 1)) (h2 : decode code (pc + 2) = .ok (.iconst k, 1)) (h3 : decode code (pc + 3) = .ok (.iadd, 1)) (h4 : decode code (pc + 4) = .ok (.iaload, 1)) (hk : Int32.ofInt k = nI j) (hi : i + j < L)
    (kk : LW p e s m below meth c b nc ns x ay (pc + 5) (lL x ay b i) (.int (xs (i + j)) :: st) M N) : LW p e s m below meth c b nc ns x ay pc (lL x ay b i) st M N := by
  intro H locs la hP hD hS hl4
  obtain ⟨⟨hx, hb, hr, hml, hown, -, hX, hbl, hlocks, hgv⟩, hK, hL, hnc, hns⟩ := id C
  refine lv_aload_n hx hb h0 rfl (lv_at hl4 0 rfl) ?_
  refine lv_iload_n hx hb h1 rfl (lv_at hl4 3 rfl) ?_
  refine lv_iconst hx hb h2 hk ?_
  refine lv_iadd hx hb h3 ?_
  rw [nI_add]
  refine va_sld hx hb hX hbl (Nat.not_le.mpr hbl) hS (vp_in_nI hi (by omega)) h4 ?_
  rw [nI_clamp (by omega)]
  exact kk H locs la hP hD hS hl4
/-- a comparison of ints; of longs -/
theorem l_same {off : Int} {v : Int32} {i : Nat} (C : lCx p s m meth c b L xs x nc ns) (hd : decode code pc = .ok (.if_icmp .eq off, 3)) (ht : (pc : Int) + off = ((1533 : Nat) : Int)) (kk : LW p e s m below meth c b nc ns x ay 1533 ls [] M N) : LW p e s m below meth c b nc ns x ay pc ls [.int v, .int v] M N := by
  intro H locs la hP hD hS hl4
  exact lv_icmp_eq C.1.1 C.1.2.1 hd ht (fun _ => kk H locs la hP hD hS hl4) (fun h => absurd rfl h)
theorem l_sameL {off : Int} {v : Int64} (C : lCx p s m meth c b L xs x nc ns) (h0 : decode code pc = .ok (.lcmp, 1)) (hd : decode code (pc + 1) = .ok (.ifCond .eq off, 3)) (ht : ((pc + 1 : Nat) : Int) + off = ((1533 : Nat) : Int)) (kk : LW p e s m below meth c b nc ns x ay 1533 ls [] M N) : LW p e s m below meth c b nc ns x ay pc ls [.long v, .long v] M N := by
  intro H locs la hP hD hS hl4
  refine W.lcmp C.1.1 C.1.2.1 h0 ?_
  exact lv_if_eq C.1.1 C.1.2.1 hd ht (fun _ => kk H locs la hP hD hS hl4) (fun h => absurd ((jcmp_eq v v).mpr rfl) h)
theorem l_aload_n {k : Fin 4} {j i : Nat} {v : Nat} (C : lCx p s m meth c b L xs x nc ns) (hd : decode code pc = .ok (.aload_n k, 1)) (hi : (k : Nat) = i) (hl : ls[j]? = some (i, .ref v)) (k : LW p e s m below meth c b nc ns x ay (pc + 1) ls (.ref v :: st) M N) : LW p e s m below meth c b nc ns x ay (pc) ls (st) M N := by
  intro H locs la hP hD hS hl4
  exact lv_aload_n C.1.1 C.1.2.1 hd hi (lv_at hl4 j hl) (k H locs la hP hD hS hl4)
theorem l_iload_n {k : Fin 4} {j i : Nat} {v : Int32} (C : lCx p s m meth c b L xs x nc ns) (hd : decode code pc = .ok (.iload_n k, 1)) (hi : (k : Nat) = i) (hl : ls[j]? = some (i, .int v)) (k : LW p e s m below meth c b nc ns x ay (pc + 1) ls (.int v :: st) M N) : LW p e s m below meth c b nc ns x ay (pc) ls (st) M N := by
  intro H locs la hP hD hS hl4
  exact lv_iload_n C.1.1 C.1.2.1 hd hi (lv_at hl4 j hl) (k H locs la hP hD hS hl4)
theorem l_bipush {n : Int} {v : Int32} (C : lCx p s m meth c b L xs x nc ns) (hd : decode code pc = .ok (.bipush n, 2)) (hv : (Int8.ofInt n).toInt32 = v) (k : LW p e s m below meth c b nc ns x ay (pc + 2) ls (.int v :: st) M N) : LW p e s m below meth c b nc ns x ay (pc) ls (st) M N := by
  intro H locs la hP hD hS hl4
  exact lv_bipush C.1.1 C.1.2.1 hd hv (k H locs la hP hD hS hl4)
theorem l_i2l {a : Int32} (C : lCx p s m meth c b L xs x nc ns) (hd : decode code pc = .ok (.i2l, 1)) (k : LW p e s m below meth c b nc ns x ay (pc + 1) ls (.long a.toInt64 :: st) M N) : LW p e s m below meth c b nc ns x ay (pc) ls (.int a :: st) M N := by
  intro H locs la hP hD hS hl4
  exact lv_i2l C.1.1 C.1.2.1 hd rfl (k H locs la hP hD hS hl4)
theorem l_lshl {a : Int64} {b2 : Int32} (C : lCx p s m meth c b L xs x nc ns) (hd : decode code pc = .ok (.lshl, 1)) (k : LW p e s m below meth c b nc ns x ay (pc + 1) ls (.long (a <<< (b2.toInt64 &&& 63)) :: st) M N) : LW p e s m below meth c b nc ns x ay (pc) ls (.int b2 :: .long a :: st) M N := by
  intro H locs la hP hD hS hl4
  exact lv_lshl C.1.1 C.1.2.1 hd rfl (k H locs la hP hD hS hl4)
theorem l_land {a b2 : Int64} (C : lCx p s m meth c b L xs x nc ns) (hd : decode code pc = .ok (.land, 1)) (k : LW p e s m below meth c b nc ns x ay (pc + 1) ls (.long (a &&& b2) :: st) M N) : LW p e s m below meth c b nc ns x ay (pc) ls (.long b2 :: .long a :: st) M N := by
  intro H locs la hP hD hS hl4
  exact lv_land C.1.1 C.1.2.1 hd (k H locs la hP hD hS hl4)
theorem l_lor {a b2 : Int64} (C : lCx p s m meth c b L xs x nc ns) (hd : decode code pc = .ok (.lor, 1)) (k : LW p e s m below meth c b nc ns x ay (pc + 1) ls (.long (a ||| b2) :: st) M N) : LW p e s m below meth c b nc ns x ay (pc) ls (.long b2 :: .long a :: st) M N := by
  intro H locs la hP hD hS hl4
  exact lv_lor C.1.1 C.1.2.1 hd (k H locs la hP hD hS hl4)
theorem l_isub {a b2 : Int32} (C : lCx p s m meth c b L xs x nc ns) (hd : decode code pc = .ok (.isub, 1)) (k : LW p e s m below meth c b nc ns x ay (pc + 1) ls (.int (a - b2) :: st) M N) : LW p e s m below meth c b nc ns x ay (pc) ls (.int b2 :: .int a :: st) M N := by
  intro H locs la hP hD hS hl4
  exact lv_isub C.1.1 C.1.2.1 hd (k H locs la hP hD hS hl4)
theorem l_iand {a b2 : Int32} (C : lCx p s m meth c b L xs x nc ns) (hd : decode code pc = .ok (.iand, 1)) (k : LW p e s m below meth c b nc ns x ay (pc + 1) ls (.int (a &&& b2) :: st) M N) : LW p e s m below meth c b nc ns x ay (pc) ls (.int b2 :: .int a :: st) M N := by
  intro H locs la hP hD hS hl4
  exact lv_iand C.1.1 C.1.2.1 hd (k H locs la hP hD hS hl4)
theorem l_ldc2 {n : Nat} {v : Int64} (C : lCx p s m meth c b L xs x nc ns) (hd : decode code pc = .ok (.ldc2_w n, 3)) (hv : Cond.constantLong RL n v ∈ jtbl) (k : LW p e s m below meth c b nc ns x ay (pc + 3) ls (.long v :: st) M N) : LW p e s m below meth c b nc ns x ay (pc) ls (st) M N := by
  intro H locs la hP hD hS hl4
  exact lv_ldc2 C.1.1 C.1.2.1 C.1.2.2.2.2.1 (lts C _ hv) hd (k H locs la hP hD hS hl4)
theorem l_slen {i : Nat} (C : lCx p s m meth c b L xs x nc ns) (hd : decode code pc = .ok (.arraylength, 1)) (k : LW p e s m below meth c b nc ns x ay (pc + 1) ls (.int (nI L) :: st) M N) : LW p e s m below meth c b nc ns x ay pc ls (.ref b :: st) M N := by
  intro H locs la hP hD hS hl4
  obtain ⟨⟨hx, hb, hr, hml, hown, -, hX, hbl, hlocks, hgv⟩, hK, hL, hnc, hns⟩ := id C
  exact va_slen hx hb hX hbl (Nat.not_le.mpr hbl) hS hd (k H locs la hP hD hS hl4)
theorem l_sld {i : Nat} (C : lCx p s m meth c b L xs x nc ns) (hd : decode code pc = .ok (.iaload, 1)) (hi : i < L) (k : LW p e s m below meth c b nc ns x ay (pc + 1) ls (.int (xs i) :: st) M N) : LW p e s m below meth c b nc ns x ay pc ls (.int (nI i) :: .ref b :: st) M N := by
  intro H locs la hP hD hS hl4
  obtain ⟨⟨hx, hb, hr, hml, hown, -, hX, hbl, hlocks, hgv⟩, hK, hL, hnc, hns⟩ := id C
  refine va_sld hx hb hX hbl (Nat.not_le.mpr hbl) hS (vp_in_nI hi (by omega)) hd ?_
  rw [nI_clamp (by omega)]
  exact k H locs la hP hD hS hl4
theorem l_icmp_gt {a b2 : Int32} {off : Int} {tgt : Nat} (C : lCx p s m meth c b L xs x nc ns) (hd : decode code pc = .ok (.if_icmp .gt off, 3)) (ht : (pc : Int) + off = (tgt : Int)) (kt : (b2 < a) → LW p e s m below meth c b nc ns x ay tgt ls st M N) (kf : (¬ b2 < a) → LW p e s m below meth c b nc ns x ay (pc + 3) ls st M N) : LW p e s m below meth c b nc ns x ay pc ls (.int b2 :: .int a :: st) M N := by
  intro H locs la hP hD hS hl4
  exact lv_icmp_gt C.1.1 C.1.2.1 hd ht (fun h => kt h H locs la hP hD hS hl4) (fun h => kf h H locs la hP hD hS hl4)
theorem l_tableIn {dflt lo hi : Int} {offs : Array Int} {len : Nat} {v : Int32} {off : Int} {tgt : Nat} (C : lCx p s m meth c b L xs x nc ns) (hd : decode code pc = .ok (.tableswitch dflt lo hi offs, len)) (h1 : ¬ v.toInt < lo) (h2 : ¬ hi < v.toInt) (ho : offs[(v.toInt - lo).toNat]? = some off) (ht : (pc : Int) + off = (tgt : Int))
    (k : LW p e s m below meth c b nc ns x ay tgt ls st M N) : LW p e s m below meth c b nc ns x ay pc ls (.int v :: st) M N := by
  intro H locs la hP hD hS hl4
  exact lv_tableIn C.1.1 C.1.2.1 hd h1 h2 ho ht (k H locs la hP hD hS hl4)
theorem l_tableOut {dflt lo hi : Int} {offs : Array Int} {len : Nat} {v : Int32} {tgt : Nat} (C : lCx p s m meth c b L xs x nc ns) (hd : decode code pc = .ok (.tableswitch dflt lo hi offs, len)) (h : v.toInt < lo ∨ hi < v.toInt) (ht : (pc : Int) + dflt = (tgt : Int))
    (k : LW p e s m below meth c b nc ns x ay tgt ls st M N) : LW p e s m below meth c b nc ns x ay pc ls (.int v :: st) M N := by
  intro H locs la hP hD hS hl4
  exact lv_tableOut C.1.1 C.1.2.1 hd h ht (k H locs la hP hD hS hl4)
/-- the next six ints -/
theorem l_next {i : Nat} (C : lCx p s m meth c b L xs x nc ns) (k : LW p e s m below meth c b nc ns x ay 18 (lL x ay b (i + 6)) [] M N) : LW p e s m below meth c b nc ns x ay 1533 (lL x ay b i) [] M N := by
  intro H locs la hP hD hS hl4
  refine lv_iinc (v := nI (i + 6)) (lv' := [(3, .int (nI (i + 6))), (0, .ref b), (1, .ref (x.2.2.2 0)), (2, .ref (ay 0))]) C.1.1 C.1.2.1 dL_law_1533 hl4 (k := 3) rfl (nI_add i 6) (by decide) rfl (fun la hl => ?_)
  refine lv_goto (tgt := 18) C.1.1 C.1.2.1 dL_law_1536 (by decide) ?_
  exact k H locs la hP hD hS (lv_sub hl [1, 2, 3, 0] rfl)
/-- the end -/
theorem l_end (C : lCx p s m meth c b L xs x nc ns) : LW p e s m below meth c b nc ns x ay 1539 ls [] M N := by
  intro H locs la hP hD hS hl4
  obtain ⟨⟨hx, hb, hr, hml, hown, -, hX, hbl, hlocks, hgv⟩, hK, hL, hnc, hns⟩ := id C
  refine lv_iconst (v := 1) hx hb dL_law_1539 rfl ?_
  refine va_forget (fun q hq => hS.2.2 q hq) ?_
  refine W.widen (k := 600000) (n := 7302250) hnc hns ?_
  exact lw_ret hx hb hr hlocks dL_law_1540
end LWR
