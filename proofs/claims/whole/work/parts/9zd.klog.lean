/-! the logic of constructors: a world of cells that grows -/
abbrev kX : Type := Launch × va_G × (Nat → ClassId) × Nat × Nat × Option Nat
def ktx : String := "size most least price village sees raise lower by storm when cell at same stone loop end stop n ne e se s sw w nw "
def kbt : List Int32 := [115, 105, 122, 101, 32, 109, 111, 115, 116, 32, 108, 101, 97, 115, 116, 32, 112, 114, 105, 99, 101, 32, 118, 105, 108, 108, 97, 103, 101, 32, 115, 101, 101, 115, 32, 114, 97, 105, 115, 101, 32, 108, 111, 119, 101, 114, 32, 98, 121, 32, 115, 116, 111, 114, 109, 32, 119, 104, 101, 110, 32, 99, 101, 108, 108, 32, 97, 116, 32, 115, 97, 109, 101, 32, 115, 116, 111, 110, 101, 32, 108, 111, 111, 112, 32, 101, 110, 100, 32, 115, 116, 111, 112, 32, 110, 32, 110, 101, 32, 101, 32, 115, 101, 32, 115, 32, 115, 119, 32, 119, 32, 110, 119, 32]
def kEv (x : kX) (A : Nat → Prop) (U : State) : Prop := jN U ∧ va_AO "NineSights$Tray" U ∧ va_AO "NineSights$World" U ∧ vk_R RX7 19 ktx x.2.2.2.1 U ∧ vk_S 1 [114] [kbt] (fun _ => x.2.2.2.1) (fun _ => x.2.2.2.2.1) A U U.heap ∧ va_Z "java/lang/String" "COMPACT_STRINGS" "Z" (.int 1) A U U.heap ∧ va_Z "jdk/internal/util/Preconditions" "SIOOBE_FORMATTER" "Ljava/util/function/BiFunction;" (va_rf x.2.2.2.2.2) A U U.heap
theorem kEv.call {x : kX} {A B : Nat → Prop} {s U : State} {H : Heap} {locs : List Loc} (h : kEv x A s) (hS : va_S A s.heap H locs) (hAB : ∀ q, B q → A q) (hU : U.heap = H) (hW : s.WarmedH U.vm) : kEv x B U := by
  obtain ⟨h1, h2, h3, h4, h5, h6, h7⟩ := h
  refine ⟨h1.warm hW, h2.moved hW.alike, h3.moved hW.alike, h4.warm hW, ?_, ?_, ?_⟩
  · rw [hU]; exact (vk_S.moved hW.alike (h5.kept (fun a g1 g2 => hS.2.1 a g1 g2))).narrow hAB
  · rw [hU]; exact (va_Z.moved hW.alike (h6.kept (fun a g1 g2 => hS.2.1 a g1 g2))).narrow hAB
  · rw [hU]; exact (va_Z.moved hW.alike (h7.kept (fun a g1 g2 => hS.2.1 a g1 g2))).narrow hAB
theorem kEv.same {x : kX} {A : Nat → Prop} {s U : State} (h : kEv x A s) (hv : U.vm = s.vm) (hh : U.heap = s.heap) : kEv x A U := by
  obtain ⟨h1, h2, h3, h4, h5, h6, h7⟩ := h
  have ha : s.vm.Alike U.vm := by rw [hv]; exact Vm.Alike.refl s.vm
  exact ⟨h1.same hv.symm, h2.moved ha, h3.moved ha, h4.same hv, by rw [hh]; exact vk_S.moved ha h5, by rw [hh]; exact va_Z.moved ha h6, by rw [hh]; exact va_Z.moved ha h7⟩
def krm (d mc ms : Nat) : Room := { frames := d, cells := mc, slots := ms, locals := 50 * d }
def kQ (x : kX) (A : Nat → Prop) (Q : va_W → Option Value → Prop) : Array Value → State → Outcome → State → Prop := fun _ st oc t =>
  (∃ (r : Option Value) (ws : va_W), oc = .returned r ∧ Q ws r ∧ va_P x.2.1 vwCl ws t.heap ∧ va_K x.2.1 vwCl (jtys x.2.2.1) t ∧ va_D A ws) ∧ va_F A st t
def kAt (x : kX) (mi : jMI) (ws : va_W) (ls : List (Nat × Value)) (p : Program) (s : State) (m : MethodId) (args : Array Value) (meth : Method) (c : Code) (H : Heap) (locs : List Loc) (A : Nat → Prop) (la : Array Slot) : Prop :=
  p.tables.exec = Jvm.exec ∧ c.code = mi.2.1 ∧ c.maxLocals = mi.2.2.1 ∧ meth.sig.returnType = mi.2.2.2 ∧ meth.locks = false ∧ s.vm.findClass mi.1.cls = some m.cls ∧ (∀ w ∈ jtbl, w.before args s = true) ∧ va_K x.2.1 vwCl (jtys x.2.2.1) s ∧ va_P x.2.1 vwCl ws H ∧ va_D A ws ∧ va_S A s.heap H locs ∧ ((∀ q, s.heap.size ≤ q → A q) ∧ kEv x A s ∧ meth.name = mi.1.name) ∧ lv_has la mi.2.2.1 ls
def KW (x : kX) (mi : jMI) (d mc ms nc ns : Nat) (Q : va_W → Option Value → Prop) (pc : Nat) (ls : List (Nat × Value)) (st : List Value) (ws : va_W) : Prop :=
  ∀ (p : Program) (e : Env) (s : State) (m : MethodId) (args : Array Value) (below : List Frame) (meth : Method) (c : Code) (H : Heap) (locs : List Loc) (A : Nat → Prop) (la : Array Slot), kAt x mi ws ls p s m args meth c H locs A la →
    W p x.1 e (krm d mc ms) s m args below meth c H locs nc ns (MQ below (kQ x A Q) args s mc ms A) (F0 m pc la st)
def KC (x : kX) (mi : jMI) (d mc ms : Nat) (av : List Value) (ws : va_W) (Q : va_W → Option Value → Prop) : Prop :=
  ∀ sz : Nat, Met x.1 mi.1 (Cond.code mi.1 mi.2.1 mi.2.2.1 mi.2.2.2 :: jtbl) (krm d mc ms) (va_Pc av (fun U => U.heap.size = sz ∧ va_P x.2.1 vwCl ws U.heap ∧ va_K x.2.1 vwCl (jtys x.2.2.1) U ∧ va_D (fun _ => True) ws ∧ kEv x (va_A ws sz) U)) (kQ x (va_A ws sz) Q) mc ms (va_A ws sz)
theorem KC.of {x : kX} {mi : jMI} {d mc ms : Nat} {av : List Value} {ws : va_W} {Q : va_W → Option Value → Prop} (hy : plainName mi.1.cls = true) (hl : (lg_sl av).length ≤ mi.2.2.1) (h : KW x mi d mc ms 0 0 Q 0 (lv_args 0 av) [] ws) : KC x mi d mc ms av ws Q := by
  intro sz
  refine Met.ofW (cc := mi.2.1) (maxL := mi.2.2.1) (ret := mi.2.2.2) hy rfl ?_
  intro p e s m args below meth c s₁ B hml hv
  obtain ⟨rfl, hsz, hP, hK, hD0, hN⟩ := hv
  have hts := atoms_spec (ws := Cond.code mi.1 mi.2.1 mi.2.2.1 mi.2.2.2 :: jtbl) B.pre
  have hin : meth.name = mi.1.name := (name_of_methodNamed B.named B.method).1
  subst hsz
  rw [lg_entry_eq]
  exact h p e s m _ below meth c s.heap [] (va_A ws s.heap.size) _ ⟨B.exec, B.bytes, hml, B.returns, B.notSynchronized, findClass_of_methodNamed B.named, fun w hw => hts w (List.mem_cons_of_mem _ hw), hK, hP, hD0.self, va_S.rf, ⟨fun q hq => Or.inr hq, hN, hin⟩, lv_entry av hl⟩
theorem KC.ofF {x : kX} {mi : jMI} {d mc ms : Nat} {av : List Value} {ws : va_W} {Q : va_W → Option Value → Prop} (hy : plainFor mi.1 = true) (hl : (lg_sl av).length ≤ mi.2.2.1) (h : KW x mi d mc ms 0 0 Q 0 (lv_args 0 av) [] ws) : KC x mi d mc ms av ws Q := by
  intro sz
  refine MetFree.of_bodySF (code := mi.2.1) (maxLocals := mi.2.2.1) (ret := mi.2.2.2) hy ?_ ?_
  · intro args s m h hn
    obtain ⟨meth, c, h1, h2, h3, h4, h5, h6, -, -⟩ := Cond.code_spec hn (atoms_spec (ws := Cond.code mi.1 mi.2.1 mi.2.2.1 mi.2.2.2 :: jtbl) h _ List.mem_cons_self)
    exact ⟨meth, c, h1, h2, h3, h4, h5, h6⟩
  · intro p e s m args below meth c s₁ B hml hv _
    obtain ⟨rfl, hsz, hP, hK, hD0, hN⟩ := hv
    have hts := atoms_spec (ws := Cond.code mi.1 mi.2.1 mi.2.2.1 mi.2.2.2 :: jtbl) B.pre
    have hin : meth.name = mi.1.name := (name_of_methodNamed B.named B.method).1
    subst hsz
    have hh0 : s₁.heap = s.heap := by rw [B.state]; rfl
    have hw := h p e s m av.toArray below meth c s.heap [] (va_A ws s.heap.size) _ ⟨B.exec, B.bytes, hml, B.returns, B.notSynchronized, findClass_of_methodNamed B.named, fun w hw => hts w (List.mem_cons_of_mem _ hw), hK, hP, hD0.self, va_S.rf, ⟨fun q hq => Or.inr hq, hN, hin⟩, lv_entry av hl⟩
    rw [← lg_entry_eq] at hw
    obtain ⟨t, a1, o, b1, b2, b3⟩ := hw s₁ hh0 (Stand.of_body B)
    exact ⟨t, o, a1, b1, b2, ⟨b3.1, b3.2⟩⟩
section KR
variable {x : kX} {mi : jMI} {d mc ms nc ns : Nat} {Q : va_W → Option Value → Prop} {pc : Nat} {ls : List (Nat × Value)} {st : List Value} {ws : va_W}
theorem kw_iconst {n : Int} {v : Int32} (hd : decode mi.2.1 pc = .ok (.iconst n, 1)) (hv : Int32.ofInt n = v) (k : KW x mi d mc ms (nc) (ns) Q (pc + 1) ls (.int v :: st) (ws)) : KW x mi d mc ms (nc) (ns) Q (pc) ls (st) (ws) := by
  intro p e s m args below meth c H locs A la hc
  exact lv_iconst hc.1 hc.2.1 hd hv (k p e s m args below meth c H locs A la hc)
theorem kw_bipush {n : Int} {v : Int32} (hd : decode mi.2.1 pc = .ok (.bipush n, 2)) (hv : (Int8.ofInt n).toInt32 = v) (k : KW x mi d mc ms (nc) (ns) Q (pc + 2) ls (.int v :: st) (ws)) : KW x mi d mc ms (nc) (ns) Q (pc) ls (st) (ws) := by
  intro p e s m args below meth c H locs A la hc
  exact lv_bipush hc.1 hc.2.1 hd hv (k p e s m args below meth c H locs A la hc)
theorem kw_sipush {n : Int} {v : Int32} (hd : decode mi.2.1 pc = .ok (.sipush n, 3)) (hv : (Int16.ofInt n).toInt32 = v) (k : KW x mi d mc ms (nc) (ns) Q (pc + 3) ls (.int v :: st) (ws)) : KW x mi d mc ms (nc) (ns) Q (pc) ls (st) (ws) := by
  intro p e s m args below meth c H locs A la hc
  exact lv_sipush hc.1 hc.2.1 hd hv (k p e s m args below meth c H locs A la hc)
theorem kw_lconst {n : Fin 2} {v : Int64} (hd : decode mi.2.1 pc = .ok (.lconst n, 1)) (hv : Int64.ofNat (n : Nat) = v) (k : KW x mi d mc ms (nc) (ns) Q (pc + 1) ls (.long v :: st) (ws)) : KW x mi d mc ms (nc) (ns) Q (pc) ls (st) (ws) := by
  intro p e s m args below meth c H locs A la hc
  exact lv_lconst hc.1 hc.2.1 hd hv (k p e s m args below meth c H locs A la hc)
theorem kw_iload_n {k : Fin 4} {j i : Nat} {v : Int32} (hd : decode mi.2.1 pc = .ok (.iload_n k, 1)) (hi : (k : Nat) = i) (hl : ls[j]? = some (i, .int v)) (k : KW x mi d mc ms (nc) (ns) Q (pc + 1) ls (.int v :: st) (ws)) : KW x mi d mc ms (nc) (ns) Q (pc) ls (st) (ws) := by
  intro p e s m args below meth c H locs A la hc
  exact lv_iload_n hc.1 hc.2.1 hd hi (lv_at hc.2.2.2.2.2.2.2.2.2.2.2.2 j hl) (k p e s m args below meth c H locs A la hc)
theorem kw_istore_n {k : Fin 4} {i : Nat} {v : Int32} {ls' : List (Nat × Value)} (hd : decode mi.2.1 pc = .ok (.istore_n k, 1)) (hi : (k : Nat) = i) (hn : i < mi.2.2.1) (hl : (i, Value.int v) :: ls.filter (fun q => !(q.1 == i) && !(q.1 + 1 == i && q.2.category == 2)) = ls') (k : KW x mi d mc ms (nc) (ns) Q (pc + 1) ls' (st) (ws)) : KW x mi d mc ms (nc) (ns) Q (pc) ls (.int v :: st) (ws) := by
  intro p e s m args below meth c H locs A la hc
  refine lv_istore_n hc.1 hc.2.1 hd hi hc.2.2.2.2.2.2.2.2.2.2.2.2 hn hl (fun la' hl' => k p e s m args below meth c H locs A la' ?_)
  obtain ⟨h1, h2, h3, h4, h5, h6, h7, h8, h9, h10, h11, h12, -⟩ := hc
  exact ⟨h1, h2, h3, h4, h5, h6, h7, h8, h9, h10, h11, h12, hl'⟩
theorem kw_aload_n {k : Fin 4} {j i : Nat} {v : Nat} (hd : decode mi.2.1 pc = .ok (.aload_n k, 1)) (hi : (k : Nat) = i) (hl : ls[j]? = some (i, .ref v)) (k : KW x mi d mc ms (nc) (ns) Q (pc + 1) ls (.ref v :: st) (ws)) : KW x mi d mc ms (nc) (ns) Q (pc) ls (st) (ws) := by
  intro p e s m args below meth c H locs A la hc
  exact lv_aload_n hc.1 hc.2.1 hd hi (lv_at hc.2.2.2.2.2.2.2.2.2.2.2.2 j hl) (k p e s m args below meth c H locs A la hc)
theorem kw_astore_n {k : Fin 4} {i : Nat} {v : Nat} {ls' : List (Nat × Value)} (hd : decode mi.2.1 pc = .ok (.astore_n k, 1)) (hi : (k : Nat) = i) (hn : i < mi.2.2.1) (hl : (i, Value.ref v) :: ls.filter (fun q => !(q.1 == i) && !(q.1 + 1 == i && q.2.category == 2)) = ls') (k : KW x mi d mc ms (nc) (ns) Q (pc + 1) ls' (st) (ws)) : KW x mi d mc ms (nc) (ns) Q (pc) ls (.ref v :: st) (ws) := by
  intro p e s m args below meth c H locs A la hc
  refine lv_astore_n hc.1 hc.2.1 hd hi hc.2.2.2.2.2.2.2.2.2.2.2.2 hn hl (fun la' hl' => k p e s m args below meth c H locs A la' ?_)
  obtain ⟨h1, h2, h3, h4, h5, h6, h7, h8, h9, h10, h11, h12, -⟩ := hc
  exact ⟨h1, h2, h3, h4, h5, h6, h7, h8, h9, h10, h11, h12, hl'⟩
theorem kw_iinc {i j : Nat} {n : Int} {v u : Int32} {ls' : List (Nat × Value)} (hd : decode mi.2.1 pc = .ok (.iinc i n, 3)) (hk : ls[j]? = some (i, .int v)) (hv : v + Int32.ofInt n = u) (hn : i < mi.2.2.1) (hl : (i, Value.int u) :: ls.filter (fun q => !(q.1 == i) && !(q.1 + 1 == i && q.2.category == 2)) = ls') (k : KW x mi d mc ms (nc) (ns) Q (pc + 3) ls' (st) (ws)) : KW x mi d mc ms (nc) (ns) Q (pc) ls (st) (ws) := by
  intro p e s m args below meth c H locs A la hc
  refine lv_iinc hc.1 hc.2.1 hd hc.2.2.2.2.2.2.2.2.2.2.2.2 hk hv hn hl (fun la' hl' => k p e s m args below meth c H locs A la' ?_)
  obtain ⟨h1, h2, h3, h4, h5, h6, h7, h8, h9, h10, h11, h12, -⟩ := hc
  exact ⟨h1, h2, h3, h4, h5, h6, h7, h8, h9, h10, h11, h12, hl'⟩
theorem kw_iadd {a b : Int32} (hd : decode mi.2.1 pc = .ok (.iadd, 1)) (k : KW x mi d mc ms (nc) (ns) Q (pc + 1) ls (.int (a + b) :: st) (ws)) : KW x mi d mc ms (nc) (ns) Q (pc) ls (.int b :: .int a :: st) (ws) := by
  intro p e s m args below meth c H locs A la hc
  exact lv_iadd hc.1 hc.2.1 hd (k p e s m args below meth c H locs A la hc)
theorem kw_isub {a b : Int32} (hd : decode mi.2.1 pc = .ok (.isub, 1)) (k : KW x mi d mc ms (nc) (ns) Q (pc + 1) ls (.int (a - b) :: st) (ws)) : KW x mi d mc ms (nc) (ns) Q (pc) ls (.int b :: .int a :: st) (ws) := by
  intro p e s m args below meth c H locs A la hc
  exact lv_isub hc.1 hc.2.1 hd (k p e s m args below meth c H locs A la hc)
theorem kw_iand {a b : Int32} (hd : decode mi.2.1 pc = .ok (.iand, 1)) (k : KW x mi d mc ms (nc) (ns) Q (pc + 1) ls (.int (a &&& b) :: st) (ws)) : KW x mi d mc ms (nc) (ns) Q (pc) ls (.int b :: .int a :: st) (ws) := by
  intro p e s m args below meth c H locs A la hc
  exact lv_iand hc.1 hc.2.1 hd (k p e s m args below meth c H locs A la hc)
theorem kw_ishr {a b : Int32} (hd : decode mi.2.1 pc = .ok (.ishr, 1)) (k : KW x mi d mc ms (nc) (ns) Q (pc + 1) ls (.int (a >>> (b &&& 31)) :: st) (ws)) : KW x mi d mc ms (nc) (ns) Q (pc) ls (.int b :: .int a :: st) (ws) := by
  intro p e s m args below meth c H locs A la hc
  exact lv_ishr hc.1 hc.2.1 hd (k p e s m args below meth c H locs A la hc)
theorem kw_lor {a b : Int64} (hd : decode mi.2.1 pc = .ok (.lor, 1)) (k : KW x mi d mc ms (nc) (ns) Q (pc + 1) ls (.long (a ||| b) :: st) (ws)) : KW x mi d mc ms (nc) (ns) Q (pc) ls (.long b :: .long a :: st) (ws) := by
  intro p e s m args below meth c H locs A la hc
  exact lv_lor hc.1 hc.2.1 hd (k p e s m args below meth c H locs A la hc)
theorem kw_lshl {a : Int64} {b : Int32} (hd : decode mi.2.1 pc = .ok (.lshl, 1)) (k : KW x mi d mc ms (nc) (ns) Q (pc + 1) ls (.long (a <<< (b.toInt64 &&& 63)) :: st) (ws)) : KW x mi d mc ms (nc) (ns) Q (pc) ls (.int b :: .long a :: st) (ws) := by
  intro p e s m args below meth c H locs A la hc
  exact lv_lshl hc.1 hc.2.1 hd rfl (k p e s m args below meth c H locs A la hc)
theorem kw_i2l {a : Int32} (hd : decode mi.2.1 pc = .ok (.i2l, 1)) (k : KW x mi d mc ms (nc) (ns) Q (pc + 1) ls (.long a.toInt64 :: st) (ws)) : KW x mi d mc ms (nc) (ns) Q (pc) ls (.int a :: st) (ws) := by
  intro p e s m args below meth c H locs A la hc
  exact lv_i2l hc.1 hc.2.1 hd rfl (k p e s m args below meth c H locs A la hc)
theorem kw_i2c {a : Int32} (hd : decode mi.2.1 pc = .ok (.i2c, 1)) (k : KW x mi d mc ms (nc) (ns) Q (pc + 1) ls (.int (a.toUInt32 % 65536).toInt32 :: st) (ws)) : KW x mi d mc ms (nc) (ns) Q (pc) ls (.int a :: st) (ws) := by
  intro p e s m args below meth c H locs A la hc
  exact lv_i2c hc.1 hc.2.1 hd rfl (k p e s m args below meth c H locs A la hc)
theorem kw_dup {v : Value} (hd : decode mi.2.1 pc = .ok (.dup, 1)) (h0 : v.category = 1) (k : KW x mi d mc ms (nc) (ns) Q (pc + 1) ls (v :: v :: st) (ws)) : KW x mi d mc ms (nc) (ns) Q (pc) ls (v :: st) (ws) := by
  intro p e s m args below meth c H locs A la hc
  exact lv_dup hc.1 hc.2.1 hd h0 (k p e s m args below meth c H locs A la hc)
theorem kw_pop {v : Value} (hd : decode mi.2.1 pc = .ok (.pop, 1)) (h0 : v.category = 1) (k : KW x mi d mc ms (nc) (ns) Q (pc + 1) ls (st) (ws)) : KW x mi d mc ms (nc) (ns) Q (pc) ls (v :: st) (ws) := by
  intro p e s m args below meth c H locs A la hc
  exact lv_pop hc.1 hc.2.1 hd h0 (k p e s m args below meth c H locs A la hc)
theorem kw_goto {off : Int} {tgt : Nat} (hd : decode mi.2.1 pc = .ok (.goto off, 3)) (ht : (pc : Int) + off = (tgt : Int)) (k : KW x mi d mc ms (nc) (ns) Q (tgt) ls (st) (ws)) : KW x mi d mc ms (nc) (ns) Q (pc) ls (st) (ws) := by
  intro p e s m args below meth c H locs A la hc
  exact lv_goto hc.1 hc.2.1 hd ht (k p e s m args below meth c H locs A la hc)
theorem kw_if_eq {a : Int32} {off : Int} {tgt : Nat} (hd : decode mi.2.1 pc = .ok (.ifCond .eq off, 3)) (ht : (pc : Int) + off = (tgt : Int)) (kt : (a = 0) → KW x mi d mc ms (nc) (ns) Q (tgt) ls (st) (ws)) (kf : (¬ a = 0) → KW x mi d mc ms (nc) (ns) Q (pc + 3) ls (st) (ws)) : KW x mi d mc ms (nc) (ns) Q (pc) ls (.int a :: st) (ws) := by
  intro p e s m args below meth c H locs A la hc
  exact lv_if_eq hc.1 hc.2.1 hd ht (fun h => kt h p e s m args below meth c H locs A la hc) (fun h => kf h p e s m args below meth c H locs A la hc)
theorem kw_if_ne {a : Int32} {off : Int} {tgt : Nat} (hd : decode mi.2.1 pc = .ok (.ifCond .ne off, 3)) (ht : (pc : Int) + off = (tgt : Int)) (kt : (¬ a = 0) → KW x mi d mc ms (nc) (ns) Q (tgt) ls (st) (ws)) (kf : (a = 0) → KW x mi d mc ms (nc) (ns) Q (pc + 3) ls (st) (ws)) : KW x mi d mc ms (nc) (ns) Q (pc) ls (.int a :: st) (ws) := by
  intro p e s m args below meth c H locs A la hc
  exact lv_if_ne hc.1 hc.2.1 hd ht (fun h => kt h p e s m args below meth c H locs A la hc) (fun h => kf h p e s m args below meth c H locs A la hc)
theorem kw_if_lt {a : Int32} {off : Int} {tgt : Nat} (hd : decode mi.2.1 pc = .ok (.ifCond .lt off, 3)) (ht : (pc : Int) + off = (tgt : Int)) (kt : (a < 0) → KW x mi d mc ms (nc) (ns) Q (tgt) ls (st) (ws)) (kf : (¬ a < 0) → KW x mi d mc ms (nc) (ns) Q (pc + 3) ls (st) (ws)) : KW x mi d mc ms (nc) (ns) Q (pc) ls (.int a :: st) (ws) := by
  intro p e s m args below meth c H locs A la hc
  exact lv_if_lt hc.1 hc.2.1 hd ht (fun h => kt h p e s m args below meth c H locs A la hc) (fun h => kf h p e s m args below meth c H locs A la hc)
theorem kw_icmp_ne {a b : Int32} {off : Int} {tgt : Nat} (hd : decode mi.2.1 pc = .ok (.if_icmp .ne off, 3)) (ht : (pc : Int) + off = (tgt : Int)) (kt : (¬ a = b) → KW x mi d mc ms (nc) (ns) Q (tgt) ls (st) (ws)) (kf : (a = b) → KW x mi d mc ms (nc) (ns) Q (pc + 3) ls (st) (ws)) : KW x mi d mc ms (nc) (ns) Q (pc) ls (.int b :: .int a :: st) (ws) := by
  intro p e s m args below meth c H locs A la hc
  exact lv_icmp_ne hc.1 hc.2.1 hd ht (fun h => kt h p e s m args below meth c H locs A la hc) (fun h => kf h p e s m args below meth c H locs A la hc)
theorem kw_icmp_lt {a b : Int32} {off : Int} {tgt : Nat} (hd : decode mi.2.1 pc = .ok (.if_icmp .lt off, 3)) (ht : (pc : Int) + off = (tgt : Int)) (kt : (a < b) → KW x mi d mc ms (nc) (ns) Q (tgt) ls (st) (ws)) (kf : (¬ a < b) → KW x mi d mc ms (nc) (ns) Q (pc + 3) ls (st) (ws)) : KW x mi d mc ms (nc) (ns) Q (pc) ls (.int b :: .int a :: st) (ws) := by
  intro p e s m args below meth c H locs A la hc
  exact lv_icmp_lt hc.1 hc.2.1 hd ht (fun h => kt h p e s m args below meth c H locs A la hc) (fun h => kf h p e s m args below meth c H locs A la hc)
theorem kw_icmp_ge {a b : Int32} {off : Int} {tgt : Nat} (hd : decode mi.2.1 pc = .ok (.if_icmp .ge off, 3)) (ht : (pc : Int) + off = (tgt : Int)) (kt : (b ≤ a) → KW x mi d mc ms (nc) (ns) Q (tgt) ls (st) (ws)) (kf : (¬ b ≤ a) → KW x mi d mc ms (nc) (ns) Q (pc + 3) ls (st) (ws)) : KW x mi d mc ms (nc) (ns) Q (pc) ls (.int b :: .int a :: st) (ws) := by
  intro p e s m args below meth c H locs A la hc
  exact lv_icmp_ge hc.1 hc.2.1 hd ht (fun h => kt h p e s m args below meth c H locs A la hc) (fun h => kf h p e s m args below meth c H locs A la hc)
theorem kw_ws {ws' : va_W} (h : ws = ws') (k : KW x mi d mc ms nc ns Q pc ls st ws') : KW x mi d mc ms nc ns Q pc ls st ws := h ▸ k
theorem kw_ls {ls' : List (Nat × Value)} (h : ls = ls') (k : KW x mi d mc ms nc ns Q pc ls' st ws) : KW x mi d mc ms nc ns Q pc ls st ws := h ▸ k
theorem kw_sub (ks : List Nat) {ls' : List (Nat × Value)} (h : lv_pick ls ks = ls') (k : KW x mi d mc ms nc ns Q pc ls' st ws) : KW x mi d mc ms nc ns Q pc ls st ws := by
  intro p e s m args below meth c H locs A la hc
  obtain ⟨h1, h2, h3, h4, h5, h6, h7, h8, h9, h10, h11, h12, h13⟩ := hc
  exact k p e s m args below meth c H locs A la ⟨h1, h2, h3, h4, h5, h6, h7, h8, h9, h10, h11, h12, lv_sub h13 ks h⟩
theorem kw_vret (hd : decode mi.2.1 pc = .ok (.return_, 1)) (hr : mi.2.2.2 = none) (hm : mc = nc) (hn : ms = ns) (h : Q ws none) : KW x mi d mc ms nc ns Q pc ls [] ws := by
  intro p e s m args below meth c H locs A la hc
  subst hm; subst hn
  obtain ⟨h1, h2, h3, h4, h5, h6, h7, h8, h9, h10, h11, h12, h13⟩ := hc
  exact W.vret h1 h2 (h4.trans hr) (fun t ht hW => ⟨⟨_, ws, rfl, h, by rw [ht]; exact h9, va_K.moved hW.alike h8, h10⟩, h11.F ht⟩) h11.2.2 hd
theorem kw_ret {v : Int32} {ty : FieldType} (hd : decode mi.2.1 pc = .ok (.ireturn, 1)) (hr : mi.2.2.2 = some ty) (hv : narrow ty (.int v) = .int v) (hm : mc = nc) (hn : ms = ns) (h : Q ws (some (.int v))) : KW x mi d mc ms nc ns Q pc ls [.int v] ws := by
  intro p e s m args below meth c H locs A la hc
  subst hm; subst hn
  obtain ⟨h1, h2, h3, h4, h5, h6, h7, h8, h9, h10, h11, h12, h13⟩ := hc
  exact W.zret h1 h2 (h4.trans hr) hv (fun t ht hW => ⟨⟨_, ws, rfl, h, by rw [ht]; exact h9, va_K.moved hW.alike h8, h10⟩, h11.F ht⟩) h11.2.2 hd
theorem k_nth {pre post : va_W} {q : Nat × va_E} : (pre ++ q :: post)[pre.length]? = some q := by simp
theorem k_set {pre post : va_W} {q q' : Nat × va_E} : (pre ++ q :: post).set pre.length q' = pre ++ q' :: post := by simp
/-- a cell told otherwise -/
theorem kw_re {a : Nat} {e1 e2 : va_E} {pre post : va_W} (he : ∀ (D : va_G) (cl : List vw_C) (H : Heap), va_at D cl (a, e1) H → va_at D cl (a, e2) H) (hw : ws = pre ++ (a, e1) :: post) (kk : KW x mi d mc ms nc ns Q pc ls st (pre ++ (a, e2) :: post)) : KW x mi d mc ms nc ns Q pc ls st ws := by
  intro p e s m args below meth c H locs A la hc
  subst hw
  obtain ⟨h1, h2, h3, h4, h5, h6, h7, h8, h9, h10, h11, h12, h13⟩ := hc
  have hP := h9.set h10 (e := e2) k_nth (he _ _ _ (h9 _ _ k_nth)) (fun _ _ => rfl)
  have hD := h10.set (e := e2) (k_nth (pre := pre) (post := post) (q := (a, e1)))
  rw [k_set] at hP hD
  exact kk p e s m args below meth c H locs A la ⟨h1, h2, h3, h4, h5, h6, h7, h8, hP, hD, h11, h12, h13⟩
theorem k_arr {cA : ClassId} {n : Nat} {f g : Nat → Value} (h : ∀ j, j < n → f j = g j) : arrV cA n f = arrV cA n g := by
  unfold arrV
  congr 1
  congr 1
  funext j
  exact h j.1 j.2
theorem k_reI {a n : Nat} {cA : ClassId} {f g : Nat → Int32} (h : ∀ j, j < n → f j = g j) : ∀ (D : va_G) (cl : List vw_C) (H : Heap), va_at D cl (a, .inl (cA, n, .inl f)) H → va_at D cl (a, .inl (cA, n, .inl g)) H := by
  intro D cl H hh
  have e : arrV cA n (fun j => Value.int (f j)) = arrV cA n (fun j => Value.int (g j)) := k_arr (fun j hj => by show Value.int (f j) = Value.int (g j); rw [h j hj])
  show H[a]? = some (arrV cA n (fun j => Value.int (g j)))
  rw [← e]
  exact hh
theorem k_reL {a n : Nat} {cA : ClassId} {f g : Nat → Int64} (h : ∀ j, j < n → f j = g j) : ∀ (D : va_G) (cl : List vw_C) (H : Heap), va_at D cl (a, .inl (cA, n, .inr (.inl f))) H → va_at D cl (a, .inl (cA, n, .inr (.inl g))) H := by
  intro D cl H hh
  have e : arrV cA n (fun j => Value.long (f j)) = arrV cA n (fun j => Value.long (g j)) := k_arr (fun j hj => by show Value.long (f j) = Value.long (g j); rw [h j hj])
  show H[a]? = some (arrV cA n (fun j => Value.long (g j)))
  rw [← e]
  exact hh
theorem k_reQ {a n : Nat} {cA : ClassId} {f g : Nat → Option Nat} (h : ∀ j, j < n → f j = g j) : ∀ (D : va_G) (cl : List vw_C) (H : Heap), va_at D cl (a, .inl (cA, n, .inr (.inr (.inr (.inr f))))) H → va_at D cl (a, .inl (cA, n, .inr (.inr (.inr (.inr g))))) H := by
  intro D cl H hh
  have e : arrV cA n (fun j => va_rf (f j)) = arrV cA n (fun j => va_rf (g j)) := k_arr (fun j hj => by show va_rf (f j) = va_rf (g j); rw [h j hj])
  show H[a]? = some (arrV cA n (fun j => va_rf (g j)))
  rw [← e]
  exact hh
/-- a field that is set once, in the constructor -/
def kfw (own : String) (ci k : Nat) (ty : FieldType) : Prop := ∃ (q : vw_C) (ty0 : Nat → FieldType), vwCl[ci]? = some q ∧ (∀ k, k < q.2.2 → parseFieldDescriptor (q.2.1 k).2.2.1 = some (ty0 k)) ∧ (∀ a, a < q.2.2 → ∀ b, b < q.2.2 → a ≠ b → (q.2.1 a).2.1 ≠ (q.2.1 b).2.1) ∧ (q.2.1 k).2.2.2 = true ∧ parseFieldDescriptor (q.2.1 k).2.2.1 = some ty ∧ (q.2.1 k).1 = own
theorem kw_putF {ci k idx h : Nat} {v : Value} {ty : FieldType} {fs fs' : List Value} {rest : va_W} (hd : decode mi.2.1 pc = .ok (.putfield idx, 3)) (hf : jfl mi.1.cls idx ci k) (hw : kfw mi.1.cls ci k ty) (hi : mi.1.name = "<init>") (hn : narrow ty v = v) (hfit : fits ty v = true) (hl : k < fs.length) (hfs : fs.set k v = fs')
    (kk : KW x mi d mc ms nc ns Q (pc + 3) ls st ((h, .inr (ci, fs')) :: rest)) : KW x mi d mc ms nc ns Q pc ls (v :: .ref h :: st) ((h, .inr (ci, fs)) :: rest) := by
  intro p e s m args below meth c H locs A la hc
  obtain ⟨⟨C, T, N⟩, hq, hN, hk, hT, hin, hlk⟩ := hf
  obtain ⟨q', ty0, hq', hty, hnm, hfin, hpd, hdl⟩ := hw
  rw [hq] at hq'
  cases hq'
  obtain ⟨h1, h2, h3, h4, h5, h6, h7, h8, h9, h10, h11, h12, h13⟩ := id hc
  dsimp only at hN hk hT hin hlk hty hnm hfin hpd hdl
  subst hfs
  exact va_putF (D := x.2.1) h1 h2 h7 hin ty0 hty hnm h6 h8 h9 h10 h11 0 (show ((h, Sum.inr (ci, fs)) :: rest : va_W)[0]? = _ from rfl) hq k hk (h7 _ hlk) (fun z hz => by rw [← hT]; exact hz) hfin (h12.2.2.trans hi) hdl hpd hn hfit hl hd (fun H1 locs1 hP hD hS => kk p e s m args below meth c H1 locs1 A la ⟨h1, h2, h3, h4, h5, h6, h7, h8, hP, hD, hS, h12, h13⟩)
theorem kw_put {ci k idx h : Nat} {v : Value} {ty : FieldType} {fs fs' : List Value} {rest : va_W} (hd : decode mi.2.1 pc = .ok (.putfield idx, 3)) (hf : jfl mi.1.cls idx ci k) (hw : jfw ci k ty) (hn : narrow ty v = v) (hfit : fits ty v = true) (hl : k < fs.length) (hfs : fs.set k v = fs')
    (kk : KW x mi d mc ms nc ns Q (pc + 3) ls st ((h, .inr (ci, fs')) :: rest)) : KW x mi d mc ms nc ns Q pc ls (v :: .ref h :: st) ((h, .inr (ci, fs)) :: rest) := by
  intro p e s m args below meth c H locs A la hc
  obtain ⟨⟨C, T, N⟩, hq, hN, hk, hT, hin, hlk⟩ := hf
  obtain ⟨q', ty0, hq', hty, hnm, hfin, hpd⟩ := hw
  rw [hq] at hq'
  cases hq'
  obtain ⟨h1, h2, h3, h4, h5, h6, h7, h8, h9, h10, h11, h12, h13⟩ := id hc
  dsimp only at hN hk hT hin hlk hty hnm hfin hpd
  subst hfs
  exact va_put (D := x.2.1) h1 h2 h7 hin ty0 hty hnm h6 h8 h9 h10 h11 0 (show ((h, Sum.inr (ci, fs)) :: rest : va_W)[0]? = _ from rfl) hq k hk (h7 _ hlk) (fun z hz => by rw [← hT]; exact hz) hfin hpd hn hfit hl hd (fun H1 locs1 hP hD hS => kk p e s m args below meth c H1 locs1 A la ⟨h1, h2, h3, h4, h5, h6, h7, h8, hP, hD, hS, h12, h13⟩)
theorem kw_get {ci k idx h : Nat} {v : Value} {fs : List Value} {rest : va_W} (hd : decode mi.2.1 pc = .ok (.getfield idx, 3)) (hf : jfl mi.1.cls idx ci k) (hv : fs[k]? = some v)
    (kk : KW x mi d mc ms nc ns Q (pc + 3) ls (v :: st) ((h, .inr (ci, fs)) :: rest)) : KW x mi d mc ms nc ns Q pc ls (.ref h :: st) ((h, .inr (ci, fs)) :: rest) := by
  intro p e s m args below meth c H locs A la hc
  obtain ⟨⟨C, T, N⟩, hq, hN, hk, hT, hin, hlk⟩ := hf
  obtain ⟨h1, h2, h3, h4, h5, h6, h7, h8, h9, h10, h11, h12, h13⟩ := id hc
  dsimp only at hN hk hT hin hlk
  exact va_get (D := x.2.1) h1 h2 h7 hin h6 h8 h9 0 (show ((h, Sum.inr (ci, fs)) :: rest : va_W)[0]? = _ from rfl) hq k hk (h7 _ hlk) (fun z hz => by rw [← hT]; exact hz) hv hd (kk p e s m args below meth c H locs A la hc)
theorem k_app {α : Type} {l : List α} {a : α} : (l ++ [a])[l.length]? = some a := by simp
theorem kw_newI {n : Int32} {N : Nat} (hd : decode mi.2.1 pc = .ok (.newarray .int, 2)) (hn : ¬ n < 0) (hN : n.toNatClampNeg = N) (hb : N * 4 ≤ 536870912) (hc1 : nc + 1 ≤ mc) (hs1 : ns + N ≤ ms) (ha : Cond.arrayClass .int ∈ jtbl)
    (kk : ∀ q, KW x mi d mc ms (nc + 1) (ns + N) Q (pc + 2) ls (.ref q :: st) (ws ++ [(q, .inl (x.2.2.1 20, N, .inl (fun _ => 0)))])) : KW x mi d mc ms nc ns Q pc ls (.int n :: st) ws := by
  intro p e s m args below meth c H locs A la hc
  obtain ⟨h1, h2, h3, h4, h5, h6, h7, h8, h9, h10, h11, h12, h13⟩ := id hc
  refine va_newa (a0 := (N, .inl (fun _ => 0))) (D := x.2.1) (atype := .int) (ty := .int) h1 h2 (h7 _ ha) rfl h8 h9 h10 h11 h12.1 (fun _ => rfl) hn hN hb hc1 hs1 hd (fun q cA H1 hK hP hD hS => ?_)
  have e1 : s.vm.findClass ("[" ++ FieldType.int.toString) = some cA := (hK.2 6 _ rfl).2
  have e2 : s.vm.findClass ("[" ++ FieldType.int.toString) = some (x.2.2.1 20) := (h8.2 0 _ rfl).2
  obtain rfl : x.2.2.1 20 = cA := Option.some.inj (e2.symm.trans e1)
  exact kk q p e s m args below meth c H1 locs A la ⟨h1, h2, h3, h4, h5, h6, h7, h8, hP, hD, hS, h12, h13⟩
theorem kw_newB {n : Int32} {N : Nat} (hd : decode mi.2.1 pc = .ok (.newarray .byte, 2)) (hn : ¬ n < 0) (hN : n.toNatClampNeg = N) (hb : N * 1 ≤ 536870912) (hc1 : nc + 1 ≤ mc) (hs1 : ns + N ≤ ms) (ha : Cond.arrayClass .byte ∈ jtbl)
    (kk : ∀ q, KW x mi d mc ms (nc + 1) (ns + N) Q (pc + 2) ls (.ref q :: st) (ws ++ [(q, .inl (x.2.2.1 21, N, .inl (fun _ => 0)))])) : KW x mi d mc ms nc ns Q pc ls (.int n :: st) ws := by
  intro p e s m args below meth c H locs A la hc
  obtain ⟨h1, h2, h3, h4, h5, h6, h7, h8, h9, h10, h11, h12, h13⟩ := id hc
  refine va_newa (a0 := (N, .inl (fun _ => 0))) (D := x.2.1) (atype := .byte) (ty := .byte) h1 h2 (h7 _ ha) rfl h8 h9 h10 h11 h12.1 (fun _ => rfl) hn hN hb hc1 hs1 hd (fun q cA H1 hK hP hD hS => ?_)
  have e1 : s.vm.findClass ("[" ++ FieldType.byte.toString) = some cA := (hK.2 6 _ rfl).2
  have e2 : s.vm.findClass ("[" ++ FieldType.byte.toString) = some (x.2.2.1 21) := (h8.2 1 _ rfl).2
  obtain rfl : x.2.2.1 21 = cA := Option.some.inj (e2.symm.trans e1)
  exact kk q p e s m args below meth c H1 locs A la ⟨h1, h2, h3, h4, h5, h6, h7, h8, hP, hD, hS, h12, h13⟩
theorem kw_newZ {n : Int32} {N : Nat} (hd : decode mi.2.1 pc = .ok (.newarray .boolean, 2)) (hn : ¬ n < 0) (hN : n.toNatClampNeg = N) (hb : N * 1 ≤ 536870912) (hc1 : nc + 1 ≤ mc) (hs1 : ns + N ≤ ms) (ha : Cond.arrayClass .boolean ∈ jtbl)
    (kk : ∀ q, KW x mi d mc ms (nc + 1) (ns + N) Q (pc + 2) ls (.ref q :: st) (ws ++ [(q, .inl (x.2.2.1 22, N, .inl (fun _ => 0)))])) : KW x mi d mc ms nc ns Q pc ls (.int n :: st) ws := by
  intro p e s m args below meth c H locs A la hc
  obtain ⟨h1, h2, h3, h4, h5, h6, h7, h8, h9, h10, h11, h12, h13⟩ := id hc
  refine va_newa (a0 := (N, .inl (fun _ => 0))) (D := x.2.1) (atype := .boolean) (ty := .boolean) h1 h2 (h7 _ ha) rfl h8 h9 h10 h11 h12.1 (fun _ => rfl) hn hN hb hc1 hs1 hd (fun q cA H1 hK hP hD hS => ?_)
  have e1 : s.vm.findClass ("[" ++ FieldType.boolean.toString) = some cA := (hK.2 6 _ rfl).2
  have e2 : s.vm.findClass ("[" ++ FieldType.boolean.toString) = some (x.2.2.1 22) := (h8.2 2 _ rfl).2
  obtain rfl : x.2.2.1 22 = cA := Option.some.inj (e2.symm.trans e1)
  exact kk q p e s m args below meth c H1 locs A la ⟨h1, h2, h3, h4, h5, h6, h7, h8, hP, hD, hS, h12, h13⟩
theorem kw_newL {n : Int32} {N : Nat} (hd : decode mi.2.1 pc = .ok (.newarray .long, 2)) (hn : ¬ n < 0) (hN : n.toNatClampNeg = N) (hb : N * 8 ≤ 536870912) (hc1 : nc + 1 ≤ mc) (hs1 : ns + N ≤ ms) (ha : Cond.arrayClass .long ∈ jtbl)
    (kk : ∀ q, KW x mi d mc ms (nc + 1) (ns + N) Q (pc + 2) ls (.ref q :: st) (ws ++ [(q, .inl (x.2.2.1 23, N, .inr (.inl (fun _ => 0))))])) : KW x mi d mc ms nc ns Q pc ls (.int n :: st) ws := by
  intro p e s m args below meth c H locs A la hc
  obtain ⟨h1, h2, h3, h4, h5, h6, h7, h8, h9, h10, h11, h12, h13⟩ := id hc
  refine va_newa (a0 := (N, .inr (.inl (fun _ => 0)))) (D := x.2.1) (atype := .long) (ty := .long) h1 h2 (h7 _ ha) rfl h8 h9 h10 h11 h12.1 (fun _ => rfl) hn hN hb hc1 hs1 hd (fun q cA H1 hK hP hD hS => ?_)
  have e1 : s.vm.findClass ("[" ++ FieldType.long.toString) = some cA := (hK.2 6 _ rfl).2
  have e2 : s.vm.findClass ("[" ++ FieldType.long.toString) = some (x.2.2.1 23) := (h8.2 3 _ rfl).2
  obtain rfl : x.2.2.1 23 = cA := Option.some.inj (e2.symm.trans e1)
  exact kk q p e s m args below meth c H1 locs A la ⟨h1, h2, h3, h4, h5, h6, h7, h8, hP, hD, hS, h12, h13⟩
theorem kw_newT {n : Int32} {N idx : Nat} (hd : decode mi.2.1 pc = .ok (.anewarray idx, 3)) (hl : Cond.classLink mi.1.cls idx "NineSights$Tray" ∈ jtbl) (hn : ¬ n < 0) (hN : n.toNatClampNeg = N) (hb : N * 4 ≤ 536870912) (hc1 : nc + 1 ≤ mc) (hs1 : ns + N ≤ ms)
    (kk : ∀ q, KW x mi d mc ms (nc + 1) (ns + N) Q (pc + 3) ls (.ref q :: st) (ws ++ [(q, .inl (x.2.2.1 24, N, .inr (.inr (.inr (.inr (fun _ => none))))))])) : KW x mi d mc ms nc ns Q pc ls (.int n :: st) ws := by
  intro p e s m args below meth c H locs A la hc
  obtain ⟨h1, h2, h3, h4, h5, h6, h7, h8, h9, h10, h11, h12, h13⟩ := id hc
  refine va_newq (D := x.2.1) h1 h2 h6 (h7 _ hl) h12.2.1.2.1 h8 h9 h10 h11 h12.1 hn hN hb hc1 hs1 hd (fun q cA H1 hK hP hD hS => ?_)
  obtain ⟨_, _, _, _, _, e1⟩ := (hK.2 6 _ rfl).2
  obtain ⟨_, _, _, _, _, e2⟩ := (h8.2 4 _ rfl).2
  obtain rfl : x.2.2.1 24 = cA := Option.some.inj (e2.symm.trans e1)
  exact kk q p e s m args below meth c H1 locs A la ⟨h1, h2, h3, h4, h5, h6, h7, h8, hP, hD, hS, h12, h13⟩
theorem kw_newW {n : Int32} {N idx : Nat} (hd : decode mi.2.1 pc = .ok (.anewarray idx, 3)) (hl : Cond.classLink mi.1.cls idx "NineSights$World" ∈ jtbl) (hn : ¬ n < 0) (hN : n.toNatClampNeg = N) (hb : N * 4 ≤ 536870912) (hc1 : nc + 1 ≤ mc) (hs1 : ns + N ≤ ms)
    (kk : ∀ q, KW x mi d mc ms (nc + 1) (ns + N) Q (pc + 3) ls (.ref q :: st) (ws ++ [(q, .inl (x.2.2.1 25, N, .inr (.inr (.inr (.inr (fun _ => none))))))])) : KW x mi d mc ms nc ns Q pc ls (.int n :: st) ws := by
  intro p e s m args below meth c H locs A la hc
  obtain ⟨h1, h2, h3, h4, h5, h6, h7, h8, h9, h10, h11, h12, h13⟩ := id hc
  refine va_newq (D := x.2.1) h1 h2 h6 (h7 _ hl) h12.2.1.2.2.1 h8 h9 h10 h11 h12.1 hn hN hb hc1 hs1 hd (fun q cA H1 hK hP hD hS => ?_)
  obtain ⟨_, _, _, _, _, e1⟩ := (hK.2 6 _ rfl).2
  obtain ⟨_, _, _, _, _, e2⟩ := (h8.2 5 _ rfl).2
  obtain rfl : x.2.2.1 25 = cA := Option.some.inj (e2.symm.trans e1)
  exact kk q p e s m args below meth c H1 locs A la ⟨h1, h2, h3, h4, h5, h6, h7, h8, hP, hD, hS, h12, h13⟩
/-- what the tables say of a class that is made -/
def kcl (ci : Nat) (z : List Value) : Prop := ∃ (q : vw_C) (ty : Nat → FieldType), vwCl[ci]? = some q ∧ (∀ w ∈ u_ws q.1 q.2.1 q.2.2, w ∈ jtbl) ∧ (∀ k, k < q.2.2 → parseFieldDescriptor (q.2.1 k).2.2.1 = some (ty k)) ∧ Cond.instantiable q.1 q.2.2 ∈ jtbl ∧ Cond.initialized q.1 ∈ jtbl ∧ (∀ j, j < q.2.2 → defaultValue (ty j) = vp_V z j) ∧ q.2.2 = jfn ci
theorem kw_new {ci idx N : Nat} {z : List Value} {C : String} (hd : decode mi.2.1 pc = .ok (.new idx, 3)) (hk : kcl ci z) (hC : (vwCl[ci]?.map Prod.fst) = some C) (hN : jfn ci = N) (hl : Cond.classLink mi.1.cls idx C ∈ jtbl) (hc1 : nc + 1 ≤ mc) (hs1 : ns + N ≤ ms)
    (kk : ∀ q, KW x mi d mc ms (nc + 1) (ns + N) Q (pc + 3) ls (.ref q :: st) (ws ++ [(q, .inr (ci, z))])) : KW x mi d mc ms nc ns Q pc ls st ws := by
  intro p e s m args below meth c H locs A la hc
  obtain ⟨⟨C', T, N'⟩, ty, hq, hin, hty, hins, hini, hz, hN'⟩ := hk
  rw [hq] at hC
  cases hC
  dsimp only at hN' hz hins hini hty hin hl
  subst hN
  subst hN'
  obtain ⟨h1, h2, h3, h4, h5, h6, h7, h8, h9, h10, h11, h12, h13⟩ := id hc
  exact va_new (D := x.2.1) h1 h2 h7 hin ty hty h6 (h7 _ hl) (h7 _ hins) (h7 _ hini) h8 h9 h10 h11 h12.1 hq hz hc1 hs1 hd (fun q H1 hP hD hS => kk q p e s m args below meth c H1 locs A la ⟨h1, h2, h3, h4, h5, h6, h7, h8, hP, hD, hS, h12, h13⟩)
theorem kw_iast {a n j : Nat} {i v : Int32} {f : Nat → Int32} {pre post : va_W} (hd : decode mi.2.1 pc = .ok (.iastore, 1)) (hj : j < n) (hi : i = nI j) (hn : n < 2 ^ 31) (hw : ws = pre ++ (a, .inl (x.2.2.1 20, n, .inl f)) :: post)
    (kk : KW x mi d mc ms nc ns Q (pc + 1) ls st (pre ++ (a, .inl (x.2.2.1 20, n, .inl (upd f j v))) :: post)) : KW x mi d mc ms nc ns Q pc ls (.int v :: .int i :: .ref a :: st) ws := by
  intro p e s m args below meth c H locs A la hc
  subst hw
  obtain ⟨h1, h2, h3, h4, h5, h6, h7, h8, h9, h10, h11, h12, h13⟩ := id hc
  subst hi
  refine va_iast (D := x.2.1) h1 h2 h8 h9 h10 h11 pre.length 0 k_nth rfl (vp_in_nI hj hn) hd (fun H1 locs1 hP hD hS => ?_)
  rw [nI_clamp (by omega), k_set] at hP hD
  exact kk p e s m args below meth c H1 locs1 A la ⟨h1, h2, h3, h4, h5, h6, h7, h8, hP, hD, hS, h12, h13⟩
theorem kw_last {a n j : Nat} {i : Int32} {v : Int64} {f : Nat → Int64} {pre post : va_W} (hd : decode mi.2.1 pc = .ok (.lastore, 1)) (hj : j < n) (hi : i = nI j) (hn : n < 2 ^ 31) (hw : ws = pre ++ (a, .inl (x.2.2.1 23, n, .inr (.inl f))) :: post)
    (kk : KW x mi d mc ms nc ns Q (pc + 1) ls st (pre ++ (a, .inl (x.2.2.1 23, n, .inr (.inl (vp_updL f j v)))) :: post)) : KW x mi d mc ms nc ns Q pc ls (.long v :: .int i :: .ref a :: st) ws := by
  intro p e s m args below meth c H locs A la hc
  subst hw
  obtain ⟨h1, h2, h3, h4, h5, h6, h7, h8, h9, h10, h11, h12, h13⟩ := id hc
  subst hi
  refine va_last (D := x.2.1) h1 h2 h8 h9 h10 h11 pre.length 3 k_nth rfl (vp_in_nI hj hn) hd (fun H1 locs1 hP hD hS => ?_)
  rw [nI_clamp (by omega), k_set] at hP hD
  exact kk p e s m args below meth c H1 locs1 A la ⟨h1, h2, h3, h4, h5, h6, h7, h8, hP, hD, hS, h12, h13⟩
theorem kw_lald {a n j : Nat} {i : Int32} {f : Nat → Int64} {pre post : va_W} (hd : decode mi.2.1 pc = .ok (.laload, 1)) (hj : j < n) (hi : i = nI j) (hn : n < 2 ^ 31) (hw : ws = pre ++ (a, .inl (x.2.2.1 23, n, .inr (.inl f))) :: post)
    (kk : KW x mi d mc ms nc ns Q (pc + 1) ls (.long (f j) :: st) ws) : KW x mi d mc ms nc ns Q pc ls (.int i :: .ref a :: st) ws := by
  intro p e s m args below meth c H locs A la hc
  subst hw
  obtain ⟨h1, h2, h3, h4, h5, h6, h7, h8, h9, h10, h11, h12, h13⟩ := id hc
  subst hi
  refine va_lald (D := x.2.1) h1 h2 h8 h9 pre.length 3 k_nth rfl (vp_in_nI hj hn) hd ?_
  rw [nI_clamp (by omega)]
  exact kk p e s m args below meth c H locs A la hc
/-- an object is put into a row of objects -/
theorem kw_aast {a n j v kind ti ci : Nat} {i : Int32} {f : Nat → Option Nat} {vs : List Value} {r : vw_C} {pre post : va_W} (hd : decode mi.2.1 pc = .ok (.aastore, 1)) (hj : j < n) (hi : i = nI j) (hn : n < 2 ^ 31) (hw : ws = pre ++ (a, .inl (x.2.2.1 kind, n, .inr (.inr (.inr (.inr f))))) :: post)
    (ht : (jtys x.2.2.1)[ti]? = some (x.2.2.1 kind, .object r.1)) (hv : (v, .inr (ci, vs)) ∈ ws) (hr : vwCl[ci]? = some r)
    (kk : KW x mi d mc ms nc ns Q (pc + 1) ls st (pre ++ (a, .inl (x.2.2.1 kind, n, .inr (.inr (.inr (.inr (va_up f j (some v))))))) :: post)) : KW x mi d mc ms nc ns Q pc ls (.ref v :: .int i :: .ref a :: st) ws := by
  intro p e s m args below meth c H locs A la hc
  subst hw
  obtain ⟨h1, h2, h3, h4, h5, h6, h7, h8, h9, h10, h11, h12, h13⟩ := id hc
  subst hi
  obtain ⟨qk, hv⟩ := List.getElem?_of_mem hv
  refine va_astq (D := x.2.1) h1 h2 h8 h9 h10 h11 pre.length ti qk ci k_nth ht hv hr (vp_in_nI hj hn) hd (fun H1 locs1 hP hD hS => ?_)
  rw [nI_clamp (by omega), k_set] at hP hD
  exact kk p e s m args below meth c H1 locs1 A la ⟨h1, h2, h3, h4, h5, h6, h7, h8, hP, hD, hS, h12, h13⟩
theorem kw_obj {idx a : Nat} (hd : decode mi.2.1 pc = .ok (.invokespecial idx, 3)) (hl : Cond.methodLink mi.1.cls idx objectInit ∈ jtbl) (hi : Cond.instanceMethod objectInit ∈ jtbl) (hco : Cond.code objectInit ⟨#[0xb1]⟩ 1 none ∈ jtbl) (hw : (st.map fun v => v.category).sum ≤ 8)
    (kk : KW x mi (d + 1) mc ms nc ns Q (pc + 3) ls st ws) : KW x mi (d + 1) mc ms nc ns Q pc ls (.ref a :: st) ws := by
  intro p e s m args below meth c H locs A la hc
  obtain ⟨h1, h2, h3, h4, h5, h6, h7, h8, h9, h10, h11, h12, h13⟩ := id hc
  exact W.objInit h1 h2 h6 (h7 _ hl) (h7 _ hi) (h7 _ hco) rfl (by rw [h3]; exact h13.1) rfl hd (Nat.succ_pos d) (by show 2 * 0 + (st.map fun v => v.category).sum + 12 ≤ 50 * (d + 1); omega) (kk p e s m args below meth c H locs A la hc)
/-- what a call leaves: the caller's other cells, and the callee's world -/
theorem k_join {A0 : Nat → Prop} {D : va_G} {cl : List vw_C} {wr wc w1 : va_W} {H H1 : Heap} (hP : va_P D cl (wr ++ wc) H) (hD : va_D A0 (wr ++ wc)) (hk : ∀ q : Nat, q < H.size → ¬ va_A wc H.size q → H1[q]? = H[q]?) (hF : ∀ q, va_A wc H.size q → A0 q) (hP1 : va_P D cl w1 H1) (hD1 : va_D (va_A wc H.size) w1) : va_P D cl (wr ++ w1) H1 ∧ va_D A0 (wr ++ w1) := by
  have lf : ∀ (k : Nat) (q : Nat × va_E), wr[k]? = some q → (wr ++ wc)[k]? = some q := fun k q h => by
    rw [List.getElem?_append_left (List.getElem?_eq_some_iff.mp h).1]; exact h
  have rt : ∀ (k : Nat) (q : Nat × va_E), wc[k]? = some q → (wr ++ wc)[wr.length + k]? = some q := fun k q h => by
    rw [List.getElem?_append_right (by omega), show wr.length + k - wr.length = k by omega]; exact h
  have apart : ∀ (k : Nat) (q : Nat × va_E), wr[k]? = some q → q.1 < H.size ∧ ¬ va_A wc H.size q.1 := by
    intro k q hq
    have hl := (hP k q (lf k q hq)).lt
    refine ⟨hl, fun h => ?_⟩
    rcases h with ⟨k2, e, h⟩ | h
    · have hij := hD.1 k (wr.length + k2) q (q.1, e) (lf k q hq) (rt k2 _ h) rfl
      have := (List.getElem?_eq_some_iff.mp hq).1
      omega
    · omega
  have hDr : va_D A0 wr := ⟨fun i j a b g1 g2 g3 => hD.1 i j a b (lf i a g1) (lf j b g2) g3, fun k q g => hD.2 k q (lf k q g)⟩
  refine ⟨va_P.app (fun k q hq => ?_) hP1, va_D.app hDr (hD1.weaken (fun k q _ h => hF q.1 h)) (fun i j a b ha hb hab => ?_)⟩
  · obtain ⟨g1, g2⟩ := apart k q hq
    exact (hP k q (lf k q hq)).kept (hk q.1 g1 g2)
  · exact (apart i a ha).2 (by rw [hab]; exact hD1.2 j b hb)
theorem k_free {A : Nat → Prop} {H0 H : Heap} {locs : List Loc} {wr wc : va_W} (hD : va_D A (wr ++ wc)) (hS : va_S A H0 H locs) (hA : ∀ q, H0.size ≤ q → A q) : ∀ q, va_A wc H.size q → A q := by
  intro q h
  rcases h with ⟨k, e, h⟩ | h
  · exact hD.2 (wr.length + k) (q, e) (by rw [List.getElem?_append_right (by omega), show wr.length + k - wr.length = k by omega]; exact h)
  · exact hA q (Nat.le_trans hS.1 h)
theorem k_right {D : va_G} {cl : List vw_C} {wr wc : va_W} {H : Heap} (hP : va_P D cl (wr ++ wc) H) : va_P D cl wc H := fun k q h => hP (wr.length + k) q (by rw [List.getElem?_append_right (by omega), show wr.length + k - wr.length = k by omega]; exact h)
theorem k_rightD {A : Nat → Prop} {wr wc : va_W} (hD : va_D A (wr ++ wc)) : va_D A wc := by
  have rt : ∀ (k : Nat) (q : Nat × va_E), wc[k]? = some q → (wr ++ wc)[wr.length + k]? = some q := fun k q h => by
    rw [List.getElem?_append_right (by omega), show wr.length + k - wr.length = k by omega]; exact h
  exact ⟨fun i j a b g1 g2 g3 => by have := hD.1 _ _ a b (rt i a g1) (rt j b g2) g3; omega, fun k q g => hD.2 _ q (rt k q g)⟩
variable {m2 : jMI} {mc2 ms2 : Nat} {Q2 : va_W → Option Value → Prop} {Q3 : va_W → Prop} {wr wc : va_W}
theorem kgo {p : Program} {e : Env} {s : State} {m : MethodId} {args : Array Value} {below : List Frame} {meth : Method} {c : Code} {H : Heap} {locs : List Loc} {A : Nat → Prop} {la : Array Slot} {rest st0 : List Value} {av : Array Value}
    (hc : kAt x mi (wr ++ wc) ls p s m args meth c H locs A la)
    (hr : va_Run p x.1 e (krm d mc ms) s m args below meth c H locs nc ns mc2 ms2 (F0 m pc la st0) rest (kQ x (va_A wc H.size) Q2 av) (va_A wc H.size))
    (kk : ∀ w r, Q2 w r → KW x mi d mc ms (nc + mc2) (ns + ms2) Q (pc + 3) ls (r.toList ++ rest) (wr ++ w)) :
    W p x.1 e (krm d mc ms) s m args below meth c H locs nc ns (MQ below (kQ x A Q) args s mc ms A) (F0 m pc la st0) := by
  obtain ⟨h1, h2, h3, h4, h5, h6, h7, h8, h9, h10, h11, h12, h13⟩ := hc
  have hfr := k_free h10 h11 h12.1
  intro T hT X
  obtain ⟨v, st₀, t, T', L, e0, X', hL, e1, e2, ⟨⟨r, w, hv, hq, hP, hK, hD⟩, hz, hk⟩, stp⟩ := hr T hT X
  cases hv
  rw [e0] at hz hk
  obtain ⟨hP', hD'⟩ := k_join h9 h10 hk hfr hP hD
  have hS : va_S A s.heap t.heap (locs ++ L) := ⟨Nat.le_trans h11.1 hz, fun q g1 g2 => by rw [hk q (Nat.lt_of_lt_of_le g1 h11.1) (fun z => g2 (hfr q z))]; exact h11.2.1 q g1 g2, fun q hq => by
    rcases List.mem_append.mp hq with h | h
    · exact h11.2.2 q h
    · exact hfr _ (hL q h)⟩
  obtain ⟨t2, a1, b1⟩ := kk w v hq p e s m args below meth c t.heap (locs ++ L) A la ⟨h1, h2, h3, h4, h5, h6, h7, h8, hP', hD', hS, h12, h13⟩ T' e1 X'
  exact ⟨t2, stp t2 a1, b1⟩
/-- what the tables say of a constructor -/
def kmI (m2 : jMI) : Prop := Cond.code m2.1 m2.2.1 m2.2.2.1 m2.2.2.2 ∈ jtbl ∧ Cond.initialized m2.1.cls ∈ jtbl ∧ (m2.1.cls ≠ "java/lang/invoke/MethodHandle" ∧ m2.1.cls ≠ "java/lang/invoke/VarHandle" ∧ (parseMethodDescriptor m2.1.desc).map (fun d => d.parameters.length) = some 0) ∧ m2.2.2.1 ≤ 31 ∧ Cond.instanceMethod m2.1 ∈ jtbl ∧ m2.1.name = "<init>" ∧ m2.2.2.2 = none
theorem kw_initN {idx b : Nat} {e2 : va_E} {host : String} (hd : decode mi.2.1 pc = .ok (.invokespecial idx, 3)) (hm : kmI m2) (hl : Cond.methodLinkNest mi.1.cls idx m2.1 host ∈ jnst) (hw : (st.map fun v => v.category).sum ≤ 8) (hc1 : nc + mc2 ≤ mc) (hs1 : ns + ms2 ≤ ms)
    (hC : KC x m2 d mc2 ms2 [.ref b] [(b, e2)] (fun w r => r = none ∧ Q3 w)) (kk : ∀ w, Q3 w → KW x mi (d + 1) mc ms (nc + mc2) (ns + ms2) Q (pc + 3) ls st (ws ++ w)) : KW x mi (d + 1) mc ms nc ns Q pc ls (.ref b :: st) (ws ++ [(b, e2)]) := by
  intro p e s m args below meth c H locs A la hc
  obtain ⟨h1, h2, h3, h4, h5, h6, h7, h8, h9, h10, h11, h12, h13⟩ := id hc
  obtain ⟨g1, g2, g3, g4, g5, g6, g7⟩ := hm
  have hG := jgood m2 g1
  rw [g7] at hG g1
  have hM := hC H.size
  rw [g7] at hM
  have hfr := k_free h10 h11 h12.1
  refine kgo hc (va_runIN (As := []) (cc := mi.2.1) (nL := mi.2.2.1) (Ts := jtbl) (own := mi.1.cls) (host := host) (index := idx) (n := 0) (bytes := m2.2.1) (maxL := m2.2.2.1) ⟨h1, h2, h3, h6, h7⟩ hM
    ⟨va_cnB 0 h7 hG rfl rfl rfl (h12.2.1.1 _ hl) (h7 _ g2) g3 ⟨Nat.le_refl _, by show 8 + (m2.2.2.1 + 11) + 50 * d ≤ 50 * (d + 1); omega⟩, g6, h7 _ g5⟩
    ⟨fun a U g mk q => by obtain ⟨q0, q1, qP, qK, qD, qN⟩ := q; exact ⟨q0, q1, qP, va_K.moved (u := U) (U := U.calling g mk a) (Vm.Alike.refl U.vm) qK, qD, qN.same rfl rfl⟩, fun U hU hW => ⟨rfl, by rw [hU], by rw [hU]; exact k_right h9, va_K.moved hW.alike h8, (k_rightD h10).weaken (fun _ _ _ _ => trivial), h12.2.1.call h11 hfr hU hW⟩⟩ rfl rfl h13.1 rfl (lv_room hw) hd ⟨hc1, hs1⟩) (fun w r h => by obtain ⟨rfl, h⟩ := h; exact kk w h)
theorem kw_init {idx b : Nat} {e2 : va_E} (hd : decode mi.2.1 pc = .ok (.invokespecial idx, 3)) (hm : kmI m2) (hl : Cond.methodLink mi.1.cls idx m2.1 ∈ jtbl) (hw : (st.map fun v => v.category).sum ≤ 8) (hc1 : nc + mc2 ≤ mc) (hs1 : ns + ms2 ≤ ms)
    (hC : KC x m2 d mc2 ms2 [.ref b] [(b, e2)] (fun w r => r = none ∧ Q3 w)) (kk : ∀ w, Q3 w → KW x mi (d + 1) mc ms (nc + mc2) (ns + ms2) Q (pc + 3) ls st (ws ++ w)) : KW x mi (d + 1) mc ms nc ns Q pc ls (.ref b :: st) (ws ++ [(b, e2)]) := by
  intro p e s m args below meth c H locs A la hc
  obtain ⟨h1, h2, h3, h4, h5, h6, h7, h8, h9, h10, h11, h12, h13⟩ := id hc
  obtain ⟨g1, g2, g3, g4, g5, g6, g7⟩ := hm
  have hG := jgood m2 g1
  rw [g7] at hG g1
  have hM := hC H.size
  rw [g7] at hM
  have hfr := k_free h10 h11 h12.1
  refine kgo hc (va_runI (As := []) (cc := mi.2.1) (nL := mi.2.2.1) (Ts := jtbl) (own := mi.1.cls) (index := idx) (n := 0) (bytes := m2.2.1) (maxL := m2.2.2.1) ⟨h1, h2, h3, h6, h7⟩ hM
    ⟨callB_of 0 h7 hG rfl rfl rfl (h7 _ g2) (h7 _ hl) g3 ⟨Nat.le_refl _, by show 8 + (m2.2.2.1 + 11) + 50 * d ≤ 50 * (d + 1); omega⟩, g6, h7 _ g5⟩
    ⟨fun a U g mk q => by obtain ⟨q0, q1, qP, qK, qD, qN⟩ := q; exact ⟨q0, q1, qP, va_K.moved (u := U) (U := U.calling g mk a) (Vm.Alike.refl U.vm) qK, qD, qN.same rfl rfl⟩, fun U hU hW => ⟨rfl, by rw [hU], by rw [hU]; exact k_right h9, va_K.moved hW.alike h8, (k_rightD h10).weaken (fun _ _ _ _ => trivial), h12.2.1.call h11 hfr hU hW⟩⟩ rfl rfl h13.1 rfl (lv_room hw) hd ⟨hc1, hs1⟩) (fun w r h => by obtain ⟨rfl, h⟩ := h; exact kk w h)
/-- a call on the text, a static call: the callee has no cells of its own -/
theorem k_nilP {D : va_G} {cl : List vw_C} {H : Heap} : va_P D cl [] H := fun k q h => by simp at h
theorem k_nilD {A : Nat → Prop} : va_D A [] := ⟨fun i j a b h => by simp at h, fun k q h => by simp at h⟩
theorem kw_str {idx na : Nat} {As : List Value} (hd : decode mi.2.1 pc = .ok (.invokevirtual idx, 3)) (hm : jmV m2 na) (hq : m2.1.cls = "java/lang/String") (hl : Cond.methodLink mi.1.cls idx m2.1 ∈ jtbl) (hn : As.length = na) (hw : (st.map fun v => v.category).sum ≤ 8) (hc1 : nc ≤ mc) (hs1 : ns ≤ ms)
    (hC : KC x m2 d 0 0 (.ref x.2.2.2.1 :: As) [] (fun w r => w = [] ∧ Q2 w r)) (kk : ∀ r, Q2 [] r → KW x mi (d + 1) mc ms nc ns Q (pc + 3) ls (r.toList ++ st) ws) : KW x mi (d + 1) mc ms nc ns Q pc ls (As.reverse ++ .ref x.2.2.2.1 :: st) ws := by
  intro p e s m args below meth c H locs A la hc
  rw [← List.append_nil ws] at hc
  obtain ⟨h1, h2, h3, h4, h5, h6, h7, h8, h9, h10, h11, h12, h13⟩ := id hc
  obtain ⟨⟨g1, g2, g3, g4⟩, g5, g6⟩ := hm
  have hfr := k_free h10 h11 h12.1
  refine kgo hc (va_runV (cc := mi.2.1) (nL := mi.2.2.1) (Ts := jtbl) (own := mi.1.cls) (C := m2.1.cls) (index := idx) (n := na) (bytes := m2.2.1) (maxL := m2.2.2.1) (ret := m2.2.2.2) ⟨h1, h2, h3, h6, h7⟩ (hC H.size) ⟨callB_of na h7 (jgood m2 g1) rfl rfl rfl (h7 _ g2) (h7 _ hl) g3 ⟨Nat.le_refl _, by show 8 + (m2.2.2.1 + 11) + 50 * d ≤ 50 * (d + 1); omega⟩, h7 _ g5, h7 _ g6⟩
    ⟨fun a U g mk q => by obtain ⟨q0, q1, qP, qK, qD, qN⟩ := q; exact ⟨q0, q1, qP, va_K.moved (u := U) (U := U.calling g mk a) (Vm.Alike.refl U.vm) qK, qD, qN.same rfl rfl⟩, ?_, fun U hU hW => ⟨rfl, by rw [hU], k_nilP, va_K.moved hW.alike h8, k_nilD, h12.2.1.call h11 hfr hU hW⟩⟩ rfl hn h13.1 rfl (lv_room hw) hd ⟨hc1, hs1⟩) (fun w r h => ?_)
  · have := vk_recv h12.2.1.2.2.2.2.1 (i := 0) (by omega) h11
    rw [hq]
    exact this
  · obtain ⟨rfl, h⟩ := h
    rw [List.append_nil]
    exact kk r h
theorem kw_stat {idx na : Nat} {As : List Value} (hd : decode mi.2.1 pc = .ok (.invokestatic idx, 3)) (hm : jmS m2 na) (hl : Cond.methodLink mi.1.cls idx m2.1 ∈ jtbl) (hn : As.length = na) (hw : (st.map fun v => v.category).sum ≤ 8) (hc1 : nc ≤ mc) (hs1 : ns ≤ ms)
    (hC : KC x m2 d 0 0 As [] (fun w r => w = [] ∧ Q2 w r)) (kk : ∀ r, Q2 [] r → KW x mi (d + 1) mc ms nc ns Q (pc + 3) ls (r.toList ++ st) ws) : KW x mi (d + 1) mc ms nc ns Q pc ls (As.reverse ++ st) ws := by
  intro p e s m args below meth c H locs A la hc
  rw [← List.append_nil ws] at hc
  obtain ⟨h1, h2, h3, h4, h5, h6, h7, h8, h9, h10, h11, h12, h13⟩ := id hc
  obtain ⟨⟨g1, g2, g3, g4⟩, g5⟩ := hm
  have hfr := k_free h10 h11 h12.1
  refine kgo hc (va_runS (cc := mi.2.1) (nL := mi.2.2.1) (Ts := jtbl) (own := mi.1.cls) (index := idx) (n := na) (bytes := m2.2.1) (maxL := m2.2.2.1) (ret := m2.2.2.2) ⟨h1, h2, h3, h6, h7⟩ (hC H.size) ⟨callB_of na h7 (jgood m2 g1) rfl rfl rfl (h7 _ g2) (h7 _ hl) g3 ⟨Nat.le_refl _, by show 8 + (m2.2.2.1 + 11) + 50 * d ≤ 50 * (d + 1); omega⟩, h7 _ g5⟩
    ⟨fun a U g mk q => by obtain ⟨q0, q1, qP, qK, qD, qN⟩ := q; exact ⟨q0, q1, qP, va_K.moved (u := U) (U := U.calling g mk a) (Vm.Alike.refl U.vm) qK, qD, qN.same rfl rfl⟩, fun U hU hW => ⟨rfl, by rw [hU], k_nilP, va_K.moved hW.alike h8, k_nilD, h12.2.1.call h11 hfr hU hW⟩⟩ rfl hn h13.1 rfl (lv_room hw) hd ⟨hc1, hs1⟩) (fun w r h => ?_)
  obtain ⟨rfl, h⟩ := h
  rw [List.append_nil]
  exact kk r h
theorem kw_ldcS (hd : decode mi.2.1 pc = .ok (.ldc 19, 2)) (ho : mi.1.cls = RX7) (kk : KW x mi d mc ms nc ns Q (pc + 2) ls (.ref x.2.2.2.1 :: st) ws) : KW x mi d mc ms nc ns Q pc ls st ws := by
  intro p e s m args below meth c H locs A la hc
  obtain ⟨h1, h2, h3, h4, h5, h6, h7, h8, h9, h10, h11, h12, h13⟩ := id hc
  exact va_ldcS h1 h2 h6 (by rw [ho]; exact h12.2.1.2.2.2.1) hd (kk p e s m args below meth c H locs A la hc)
theorem kw_cs {idx : Nat} (hd : decode mi.2.1 pc = .ok (.getstatic idx, 3)) (hl : Cond.fieldLink mi.1.cls idx "java/lang/String" "COMPACT_STRINGS" "Z" ∈ jtbl) (kk : KW x mi d mc ms nc ns Q (pc + 3) ls (.int 1 :: st) ws) : KW x mi d mc ms nc ns Q pc ls st ws := by
  intro p e s m args below meth c H locs A la hc
  obtain ⟨h1, h2, h3, h4, h5, h6, h7, h8, h9, h10, h11, h12, h13⟩ := id hc
  exact va_gets h1 h2 h12.2.1.2.2.2.2.2.1 h11 h6 (h7 _ hl) (fun _ h => h) hd (kk p e s m args below meth c H locs A la hc)
theorem kw_sf {idx : Nat} (hd : decode mi.2.1 pc = .ok (.getstatic idx, 3)) (hl : Cond.fieldLink mi.1.cls idx "jdk/internal/util/Preconditions" "SIOOBE_FORMATTER" "Ljava/util/function/BiFunction;" ∈ jtbl) (kk : KW x mi d mc ms nc ns Q (pc + 3) ls (va_rf x.2.2.2.2.2 :: st) ws) : KW x mi d mc ms nc ns Q pc ls st ws := by
  intro p e s m args below meth c H locs A la hc
  obtain ⟨h1, h2, h3, h4, h5, h6, h7, h8, h9, h10, h11, h12, h13⟩ := id hc
  exact va_gets h1 h2 h12.2.1.2.2.2.2.2.2 h11 h6 (h7 _ hl) (fun _ h => h) hd (kk p e s m args below meth c H locs A la hc)
theorem kw_coder {idx : Nat} (hd : decode mi.2.1 pc = .ok (.getfield idx, 3)) (hl : Cond.fieldLink mi.1.cls idx "java/lang/String" "coder" "B" ∈ jtbl) (kk : KW x mi d mc ms nc ns Q (pc + 3) ls (.int 0 :: st) ws) : KW x mi d mc ms nc ns Q pc ls (.ref x.2.2.2.1 :: st) ws := by
  intro p e s m args below meth c H locs A la hc
  obtain ⟨h1, h2, h3, h4, h5, h6, h7, h8, h9, h10, h11, h12, h13⟩ := id hc
  exact vk_getf h1 h2 (h12.2.1.2.2.2.2.1.1 0 (by omega)).2.1 h11 h6 (h7 _ hl) (fun _ h => h) hd (kk p e s m args below meth c H locs A la hc)
theorem kw_value {idx : Nat} (hd : decode mi.2.1 pc = .ok (.getfield idx, 3)) (hl : Cond.fieldLink mi.1.cls idx "java/lang/String" "value" "[B" ∈ jtbl) (kk : KW x mi d mc ms nc ns Q (pc + 3) ls (.ref x.2.2.2.2.1 :: st) ws) : KW x mi d mc ms nc ns Q pc ls (.ref x.2.2.2.1 :: st) ws := by
  intro p e s m args below meth c H locs A la hc
  obtain ⟨h1, h2, h3, h4, h5, h6, h7, h8, h9, h10, h11, h12, h13⟩ := id hc
  exact vk_getf h1 h2 (h12.2.1.2.2.2.2.1.1 0 (by omega)).2.2.1 h11 h6 (h7 _ hl) (fun _ h => h) hd (kk p e s m args below meth c H locs A la hc)
theorem kw_tlen (hd : decode mi.2.1 pc = .ok (.arraylength, 1)) (kk : KW x mi d mc ms nc ns Q (pc + 1) ls (.int 114 :: st) ws) : KW x mi d mc ms nc ns Q pc ls (.ref x.2.2.2.2.1 :: st) ws := by
  intro p e s m args below meth c H locs A la hc
  obtain ⟨h1, h2, h3, h4, h5, h6, h7, h8, h9, h10, h11, h12, h13⟩ := id hc
  exact va_tlen h1 h2 (h12.2.1.2.2.2.2.1.1 0 (by omega)).2.2.2 h11 rfl hd (kk p e s m args below meth c H locs A la hc)
theorem kw_tb {j : Nat} {i : Int32} (hd : decode mi.2.1 pc = .ok (.baload, 1)) (hj : j < 114) (hi : i = nI j) (kk : KW x mi d mc ms nc ns Q (pc + 1) ls (.int (kbt.getD j 0) :: st) ws) : KW x mi d mc ms nc ns Q pc ls (.int i :: .ref x.2.2.2.2.1 :: st) ws := by
  intro p e s m args below meth c H locs A la hc
  obtain ⟨h1, h2, h3, h4, h5, h6, h7, h8, h9, h10, h11, h12, h13⟩ := id hc
  subst hi
  refine va_tb h1 h2 (h12.2.1.2.2.2.2.1.1 0 (by omega)).2.2.2 h11 (vp_in_nI hj (by decide)) ?_ hd (kk p e s m args below meth c H locs A la hc)
  rw [nI_clamp (by omega)]
  rfl
end KR
