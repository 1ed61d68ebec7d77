/-! returns and calls -/
theorem JC.mono {x : jX} {tb : jT} {mi : jMI} {d : Nat} {av : List Value} {M : jM} {Q Q' : jM → Option Value → Prop} (h : JC x tb mi d av M Q) (hq : ∀ M r, Q M r → Q' M r) : JC x tb mi d av M Q' := by
  intro sz p e h1 h2 h3 s m args below h4 h5 h6 h7
  obtain ⟨n, o, a1, a2, a3, ⟨⟨⟨r, M', b1, b2, b3⟩, b4⟩, a5⟩⟩ := h sz p e h1 h2 h3 s m args below h4 h5 h6 h7
  exact ⟨n, o, a1, a2, a3, ⟨⟨r, M', b1, hq _ _ b2, b3⟩, b4⟩, a5⟩
/-- what the tables say of a method that is called by its receiver's class, of a static one -/
def jmG (mi : jMI) (n : Nat) : Prop := Cond.code mi.1 mi.2.1 mi.2.2.1 mi.2.2.2 ∈ jtbl ∧ Cond.initialized mi.1.cls ∈ jtbl ∧ (mi.1.cls ≠ "java/lang/invoke/MethodHandle" ∧ mi.1.cls ≠ "java/lang/invoke/VarHandle" ∧ (parseMethodDescriptor mi.1.desc).map (fun d => d.parameters.length) = some n) ∧ mi.2.2.1 ≤ 31
def jmV (mi : jMI) (n : Nat) : Prop := jmG mi n ∧ Cond.instanceMethod mi.1 ∈ jtbl ∧ Cond.selects mi.1.cls mi.1 mi.1 ∈ jtbl
def jmS (mi : jMI) (n : Nat) : Prop := jmG mi n ∧ Cond.static mi.1 ∈ jtbl
theorem jgood (mi : jMI) (h : Cond.code mi.1 mi.2.1 mi.2.2.1 mi.2.2.2 ∈ jtbl) : GoodIn jtbl (Cond.code mi.1 mi.2.1 mi.2.2.1 mi.2.2.2 :: jtbl) := by
  intro w hw
  rcases List.mem_cons.mp hw with rfl | hw
  · exact ⟨h, good_of_word (jtbl_good h)⟩
  · exact ⟨hw, good_of_word (jtbl_good hw)⟩
section JK
variable {x : jX} {tb : jT} {mi m2 : jMI} {d : Nat} {Q : jM → Option Value → Prop} {pc : Nat} {ls : List (Nat × Value)} {st : List Value} {M : jM}
theorem jw_iret {v : Int32} (hd : decode mi.2.1 pc = .ok (.ireturn, 1)) (hr : mi.2.2.2 = some .int) (h : Q M (some (.int v))) : JW x tb mi d Q pc ls [.int v] M := by
  intro p e s m args below meth c H locs A la hc
  obtain ⟨h1, h2, h3, h4, h5, h6, h7, h8, h9, h10, h11, h12, h13⟩ := hc
  exact W.iret h1 h2 (h4.trans hr) (fun t ht hW => ⟨⟨_, M, rfl, h, by rw [ht]; exact h9, va_K.moved hW.alike h8, h10⟩, h11.F ht⟩) h11.2.2 hd
theorem jw_zret {v : Int32} (hd : decode mi.2.1 pc = .ok (.ireturn, 1)) (hr : mi.2.2.2 = some .boolean) (h01 : v = 0 ∨ v = 1) (h : Q M (some (.int v))) : JW x tb mi d Q pc ls [.int v] M := by
  intro p e s m args below meth c H locs A la hc
  obtain ⟨h1, h2, h3, h4, h5, h6, h7, h8, h9, h10, h11, h12, h13⟩ := hc
  exact W.zret h1 h2 (h4.trans hr) (by rcases h01 with rfl | rfl <;> rfl) (fun t ht hW => ⟨⟨_, M, rfl, h, by rw [ht]; exact h9, va_K.moved hW.alike h8, h10⟩, h11.F ht⟩) h11.2.2 hd
theorem jw_lret {v : Int64} (hd : decode mi.2.1 pc = .ok (.lreturn, 1)) (hr : mi.2.2.2 = some .long) (h : Q M (some (.long v))) : JW x tb mi d Q pc ls [.long v] M := by
  intro p e s m args below meth c H locs A la hc
  obtain ⟨h1, h2, h3, h4, h5, h6, h7, h8, h9, h10, h11, h12, h13⟩ := hc
  exact W.lret h1 h2 (h4.trans hr) (fun t ht hW => ⟨⟨_, M, rfl, h, by rw [ht]; exact h9, va_K.moved hW.alike h8, h10⟩, h11.F ht⟩) h11.2.2 hd
theorem jw_vret (hd : decode mi.2.1 pc = .ok (.return_, 1)) (hr : mi.2.2.2 = none) (h : Q M none) : JW x tb mi d Q pc ls [] M := by
  intro p e s m args below meth c H locs A la hc
  obtain ⟨h1, h2, h3, h4, h5, h6, h7, h8, h9, h10, h11, h12, h13⟩ := hc
  exact W.vret h1 h2 (h4.trans hr) (fun t ht hW => ⟨⟨_, M, rfl, h, by rw [ht]; exact h9, va_K.moved hW.alike h8, h10⟩, h11.F ht⟩) h11.2.2 hd
/-- the world of a call is the whole world -/
theorem jfree {A : Nat → Prop} {H0 H : Heap} {locs : List Loc} {ws : va_W} (hD : va_D A ws) (hS : va_S A H0 H locs) (hA : ∀ q, H0.size ≤ q → A q) : ∀ q, va_A ws H.size q → A q := by
  intro q h
  rcases h with ⟨k, e, h⟩ | h
  · exact hD.2 k _ h
  · exact hA q (Nat.le_trans hS.1 h)
theorem jgo {p : Program} {e : Env} {s : State} {m : MethodId} {args : Array Value} {below : List Frame} {meth : Method} {c : Code} {H : Heap} {locs : List Loc} {A : Nat → Prop} {la : Array Slot} {rest st0 : List Value} {av : Array Value}
    (hc : jAt x tb mi M ls p s m args meth c H locs A la)
    (hr : va_Run p x.1 e (jrm d) s m args below meth c H locs 0 0 0 0 (F0 m pc la st0) rest (jQ x tb (va_A (jw x tb M) H.size) (fun M' r => JW x tb mi d Q (pc + 3) ls (r.toList ++ rest) M') av) (va_A (jw x tb M) H.size)) :
    W p x.1 e (jrm d) s m args below meth c H locs 0 0 (MQ below (jQ x tb A Q) args s 0 0 A) (F0 m pc la st0) := by
  obtain ⟨h1, h2, h3, h4, h5, h6, h7, h8, h9, h10, h11, h12, h13⟩ := hc
  have hfr := jfree h10 h11 h12.1
  intro T hT X
  obtain ⟨v, st₀, t, T', L, e0, X', hL, e1, e2, ⟨⟨r, M', hv, hq, hP, hK, hD⟩, hz, hk⟩, stp⟩ := hr T hT X
  cases hv
  rw [e0] at hz hk
  have hvm : s.vm.Alike t.vm := by rw [← e2]; exact X'.warmed.alike
  have hD' : va_D A (jw x tb M') := hD.weaken (fun k q _ h => hfr q.1 h)
  have hS : va_S A s.heap t.heap (locs ++ L) := ⟨Nat.le_trans h11.1 hz, fun q g1 g2 => by rw [hk q (Nat.lt_of_lt_of_le g1 h11.1) (fun z => g2 (hfr q z))]; exact h11.2.1 q g1 g2, fun q hq => by
    rcases List.mem_append.mp hq with h | h
    · exact h11.2.2 q h
    · exact hfr _ (hL q h)⟩
  obtain ⟨t2, a1, b1⟩ := hq p e s m args below meth c t.heap (locs ++ L) A la ⟨h1, h2, h3, h4, h5, h6, h7, h8, hP, hD', hS, h12, h13⟩ T' e1 X'
  exact ⟨t2, stp t2 a1, b1⟩
theorem jw_callV {o ci n na idx : Nat} {As : List Value} {q : vw_C} (hd : decode mi.2.1 pc = .ok (.invokevirtual idx, 3)) (hs : js tb o = (ci, n)) (hci : ci < 20) (hq : vwCl[ci]? = some q) (hqc : q.1 = m2.1.cls) (hm : jmV m2 na) (hl : Cond.methodLink mi.1.cls idx m2.1 ∈ jtbl) (hn : As.length = na) (hw : (st.map fun v => v.category).sum ≤ 8)
    (k : JC x tb m2 d (.ref (x.2.2.2 o) :: As) M (fun M' r => JW x tb mi (d + 1) Q (pc + 3) ls (r.toList ++ st) M')) : JW x tb mi (d + 1) Q pc ls (As.reverse ++ .ref (x.2.2.2 o) :: st) M := by
  intro p e s m args below meth c H locs A la hc
  obtain ⟨h1, h2, h3, h4, h5, h6, h7, h8, h9, h10, h11, h12, h13⟩ := id hc
  obtain ⟨i, hi⟩ := j_at hs (by omega)
  have hat := jw_at (x := x) (M := M) hi
  rw [jent_o hci] at hat
  obtain ⟨⟨g1, g2, g3, g4⟩, g5, g6⟩ := hm
  refine jgo hc (va_runV (cc := mi.2.1) (nL := mi.2.2.1) (Ts := jtbl) (own := mi.1.cls) (C := m2.1.cls) (index := idx) (n := na) (bytes := m2.2.1) (maxL := m2.2.2.1) (ret := m2.2.2.2) ⟨h1, h2, h3, h6, h7⟩ (k H.size) ⟨callB_of na h7 (jgood m2 g1) rfl rfl rfl (h7 _ g2) (h7 _ hl) g3 ⟨Nat.le_refl _, by show 8 + (m2.2.2.1 + 11) + 50 * d ≤ 50 * (d + 1); omega⟩, h7 _ g5, h7 _ g6⟩
    ⟨fun a U g mk q => by obtain ⟨q0, q1, qP, qK, qD, qN⟩ := q; exact ⟨q0, q1, qP, va_K.moved (u := U) (U := U.calling g mk a) (Vm.Alike.refl U.vm) qK, qD, jN.same (s := U) (U := U.calling g mk a) rfl qN⟩, ?_, fun U hU hW => ⟨rfl, by rw [hU], by rw [hU]; exact h9, va_K.moved hW.alike h8, h10.weaken (fun _ _ _ _ => trivial), h12.2.warm hW⟩⟩ rfl hn h13.1 rfl (lv_room hw) hd ⟨Nat.zero_le _, Nat.zero_le _⟩)
  have := va_recv h8 h9 hq hat
  rw [hqc] at this
  exact this
theorem jw_callS {na idx : Nat} {As : List Value} (hd : decode mi.2.1 pc = .ok (.invokestatic idx, 3)) (hm : jmS m2 na) (hl : Cond.methodLink mi.1.cls idx m2.1 ∈ jtbl) (hn : As.length = na) (hw : (st.map fun v => v.category).sum ≤ 8)
    (k : JC x tb m2 d As M (fun M' r => JW x tb mi (d + 1) Q (pc + 3) ls (r.toList ++ st) M')) : JW x tb mi (d + 1) Q pc ls (As.reverse ++ st) M := by
  intro p e s m args below meth c H locs A la hc
  obtain ⟨h1, h2, h3, h4, h5, h6, h7, h8, h9, h10, h11, h12, h13⟩ := id hc
  obtain ⟨⟨g1, g2, g3, g4⟩, g5⟩ := hm
  exact jgo hc (va_runS (cc := mi.2.1) (nL := mi.2.2.1) (Ts := jtbl) (own := mi.1.cls) (index := idx) (n := na) (bytes := m2.2.1) (maxL := m2.2.2.1) (ret := m2.2.2.2) ⟨h1, h2, h3, h6, h7⟩ (k H.size) ⟨callB_of na h7 (jgood m2 g1) rfl rfl rfl (h7 _ g2) (h7 _ hl) g3 ⟨Nat.le_refl _, by show 8 + (m2.2.2.1 + 11) + 50 * d ≤ 50 * (d + 1); omega⟩, h7 _ g5⟩
    ⟨fun a U g mk q => by obtain ⟨q0, q1, qP, qK, qD, qN⟩ := q; exact ⟨q0, q1, qP, va_K.moved (u := U) (U := U.calling g mk a) (Vm.Alike.refl U.vm) qK, qD, jN.same (s := U) (U := U.calling g mk a) rfl qN⟩, fun U hU hW => ⟨rfl, by rw [hU], by rw [hU]; exact h9, va_K.moved hW.alike h8, h10.weaken (fun _ _ _ _ => trivial), h12.2.warm hW⟩⟩ rfl hn h13.1 rfl (lv_room hw) hd ⟨Nat.zero_le _, Nat.zero_le _⟩)
theorem jw_callSN {na idx : Nat} {As : List Value} {host : String} (hd : decode mi.2.1 pc = .ok (.invokestatic idx, 3)) (hm : jmS m2 na) (hl : Cond.methodLinkNest mi.1.cls idx m2.1 host ∈ jnst) (hn : As.length = na) (hw : (st.map fun v => v.category).sum ≤ 8)
    (k : JC x tb m2 d As M (fun M' r => JW x tb mi (d + 1) Q (pc + 3) ls (r.toList ++ st) M')) : JW x tb mi (d + 1) Q pc ls (As.reverse ++ st) M := by
  intro p e s m args below meth c H locs A la hc
  obtain ⟨h1, h2, h3, h4, h5, h6, h7, h8, h9, h10, h11, h12, h13⟩ := id hc
  obtain ⟨⟨g1, g2, g3, g4⟩, g5⟩ := hm
  have hG := jgood m2 g1
  refine jgo hc (va_runSN (cc := mi.2.1) (nL := mi.2.2.1) (Ts := jtbl) (own := mi.1.cls) (host := host) (index := idx) (n := na) (bytes := m2.2.1) (maxL := m2.2.2.1) (ret := m2.2.2.2) ⟨h1, h2, h3, h6, h7⟩ (k H.size)
    ⟨⟨⟨rfl, rfl, Nat.le_refl _, by show 8 + (m2.2.2.1 + 11) + 50 * d ≤ 50 * (d + 1); omega, pay_in h7 hG, List.mem_cons_self⟩, h7 _ g1, h7 _ g2, ⟨g3.1, g3.2.1⟩, fun sig h => ?_, va_Nw.use rfl (h12.2 _ hl)⟩, h7 _ g5, trivial⟩
    ⟨fun a U g mk q => by obtain ⟨q0, q1, qP, qK, qD, qN⟩ := q; exact ⟨q0, q1, qP, va_K.moved (u := U) (U := U.calling g mk a) (Vm.Alike.refl U.vm) qK, qD, jN.same (s := U) (U := U.calling g mk a) rfl qN⟩, fun U hU hW => ⟨rfl, by rw [hU], by rw [hU]; exact h9, va_K.moved hW.alike h8, h10.weaken (fun _ _ _ _ => trivial), h12.2.warm hW⟩⟩ rfl hn h13.1 rfl (lv_room hw) hd ⟨Nat.zero_le _, Nat.zero_le _⟩)
  have h2 := g3.2.2
  rw [h] at h2
  exact (Option.some.inj h2).symm
/-- System.arraycopy of ints -/
theorem jw_copyI {idx o1 o2 n1 n2 a b k : Nat} {sp dp n : Int32} (hd : decode mi.2.1 pc = .ok (.invokestatic idx, 3)) (hl : Cond.methodLink mi.1.cls idx arraycopyName ∈ jtbl) (hn : Cond.native arraycopyName ∈ jtbl) (hst : Cond.static arraycopyName ∈ jtbl) (hi : Cond.initialized "java/lang/System" ∈ jtbl)
    (hs1 : js tb o1 = (20, n1)) (hs2 : js tb o2 = (20, n2)) (hsp : sp = nI a) (hdp : dp = nI b) (hk : n = nI k) (h1 : a + k ≤ n1) (h2 : b + k ≤ n2) (hb1 : n1 < 2 ^ 31) (hb2 : n2 < 2 ^ 31) (hw : (st.map fun v => v.category).sum + (nativeFrameWords "java/lang/System" "arraycopy" 5 + 11) ≤ 50 * (d + 1))
    (kk : JW x tb mi (d + 1) Q (pc + 3) ls st (jrI M o2 (va_cpy (M.1 o1) (M.1 o2) a b k))) : JW x tb mi (d + 1) Q pc ls (.int n :: .int dp :: .ref (x.2.2.2 o2) :: .int sp :: .ref (x.2.2.2 o1) :: st) M := by
  intro p e s m args below meth c H locs A la hc
  obtain ⟨i1, hi1⟩ := j_at hs1 (by omega)
  obtain ⟨i2, hi2⟩ := j_at hs2 (by omega)
  have hat1 := jw_at (x := x) (M := M) hi1
  have hat2 := jw_at (x := x) (M := M) hi2
  rw [jent_i (by omega) (by omega)] at hat1 hat2
  obtain ⟨c1, c2, c3, c4, c5, c6, c7, c8, c9, c10, c11, c12, c13⟩ := id hc
  subst hsp; subst hdp; subst hk
  refine va_copyi (D := x.2.1) c1 c2 (by rw [c3]; exact c13.1.symm) c6 (c7 _ hl) (c7 _ hn) (c7 _ hst) (c7 _ hi) c8 c9 c10 c11 i1 i2 0 0 hat1 hat2 rfl rfl rfl (nI_pos (by omega)) (nI_pos (by omega)) (nI_pos (by omega)) (by rw [nI_clamp (by omega), nI_clamp (by omega)]; exact h1) (by rw [nI_clamp (by omega), nI_clamp (by omega)]; exact h2) (fun _ _ => rfl) (Nat.succ_pos d) hw hd (fun H1 locs1 hP hD hS => ?_)
  rw [nI_clamp (by omega), nI_clamp (by omega), nI_clamp (by omega)] at hP hD
  have hset := jw_set (M' := jrI M o2 (va_cpy (M.1 o1) (M.1 o2) a b k)) c10 hi2 rfl jrow_o
  rw [jent_i (by omega) (by omega), jrI_s] at hset
  rw [hset] at hP hD
  exact kk p e s m args below meth c H1 locs1 A la ⟨c1, c2, c3, c4, c5, c6, c7, c8, hP, hD, hS, c12, c13⟩
theorem jw_copyL {idx o1 o2 n1 n2 a b k : Nat} {sp dp n : Int32} (hd : decode mi.2.1 pc = .ok (.invokestatic idx, 3)) (hl : Cond.methodLink mi.1.cls idx arraycopyName ∈ jtbl) (hn : Cond.native arraycopyName ∈ jtbl) (hst : Cond.static arraycopyName ∈ jtbl) (hi : Cond.initialized "java/lang/System" ∈ jtbl)
    (hs1 : js tb o1 = (23, n1)) (hs2 : js tb o2 = (23, n2)) (hsp : sp = nI a) (hdp : dp = nI b) (hk : n = nI k) (h1 : a + k ≤ n1) (h2 : b + k ≤ n2) (hb1 : n1 < 2 ^ 31) (hb2 : n2 < 2 ^ 31) (hw : (st.map fun v => v.category).sum + (nativeFrameWords "java/lang/System" "arraycopy" 5 + 11) ≤ 50 * (d + 1))
    (kk : JW x tb mi (d + 1) Q (pc + 3) ls st (jrL M o2 (va_cpy (M.2 o1) (M.2 o2) a b k))) : JW x tb mi (d + 1) Q pc ls (.int n :: .int dp :: .ref (x.2.2.2 o2) :: .int sp :: .ref (x.2.2.2 o1) :: st) M := by
  intro p e s m args below meth c H locs A la hc
  obtain ⟨i1, hi1⟩ := j_at hs1 (by omega)
  obtain ⟨i2, hi2⟩ := j_at hs2 (by omega)
  have hat1 := jw_at (x := x) (M := M) hi1
  have hat2 := jw_at (x := x) (M := M) hi2
  rw [jent_l] at hat1 hat2
  obtain ⟨c1, c2, c3, c4, c5, c6, c7, c8, c9, c10, c11, c12, c13⟩ := id hc
  subst hsp; subst hdp; subst hk
  refine va_copyl (D := x.2.1) c1 c2 (by rw [c3]; exact c13.1.symm) c6 (c7 _ hl) (c7 _ hn) (c7 _ hst) (c7 _ hi) c8 c9 c10 c11 i1 i2 3 3 hat1 hat2 rfl rfl rfl (nI_pos (by omega)) (nI_pos (by omega)) (nI_pos (by omega)) (by rw [nI_clamp (by omega), nI_clamp (by omega)]; exact h1) (by rw [nI_clamp (by omega), nI_clamp (by omega)]; exact h2) (fun _ _ => rfl) (Nat.succ_pos d) hw hd (fun H1 locs1 hP hD hS => ?_)
  rw [nI_clamp (by omega), nI_clamp (by omega), nI_clamp (by omega)] at hP hD
  have hset := jw_set (M' := jrL M o2 (va_cpy (M.2 o1) (M.2 o2) a b k)) c10 hi2 rfl jrowL_o
  rw [jent_l, jrL_s] at hset
  rw [hset] at hP hD
  exact kk p e s m args below meth c H1 locs1 A la ⟨c1, c2, c3, c4, c5, c6, c7, c8, hP, hD, hS, c12, c13⟩
end JK
