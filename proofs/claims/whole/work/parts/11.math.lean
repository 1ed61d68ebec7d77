theorem JC.ofF {x : jX} {tb : jT} {mi : jMI} {d : Nat} {av : List Value} {M : jM} {Q : jM → Option Value → Prop} (hy : plainFor mi.1 = true) (hl : (lg_sl av).length ≤ mi.2.2.1) (h : JW x tb mi d Q 0 (lv_args 0 av) [] M) : JC x tb mi d av M Q := by
  intro sz
  refine MetFree.of_bodySF (code := mi.2.1) (maxLocals := mi.2.2.1) (ret := mi.2.2.2) hy ?_ ?_
  · intro args s m h hn
    obtain ⟨meth, c, h1, h2, h3, h4, h5, h6, -, -⟩ := Cond.code_spec hn (atoms_spec (ws := Cond.code mi.1 mi.2.1 mi.2.2.1 mi.2.2.2 :: jtbl) h _ List.mem_cons_self)
    exact ⟨meth, c, h1, h2, h3, h4, h5, h6⟩
  · intro p e s m args below meth c s₁ B hml hv _
    obtain ⟨rfl, hsz, hP, hK, hD0, hN⟩ := hv
    have hts := atoms_spec (ws := Cond.code mi.1 mi.2.1 mi.2.2.1 mi.2.2.2 :: jtbl) B.pre
    subst hsz
    have hh0 : s₁.heap = s.heap := by rw [B.state]; rfl
    have hw := h p e s m av.toArray below meth c s.heap [] (va_A (jw x tb M) s.heap.size) _ ⟨B.exec, B.bytes, hml, B.returns, B.notSynchronized, findClass_of_methodNamed B.named, fun w hw => hts w (List.mem_cons_of_mem _ hw), hK, hP, hD0.self, va_S.rf, ⟨fun q hq => Or.inr hq, hN⟩, lv_entry av hl⟩
    rw [← lg_entry_eq] at hw
    obtain ⟨t, a1, o, b1, b2, b3⟩ := hw s₁ hh0 (Stand.of_body B)
    exact ⟨t, o, a1, b1, b2, ⟨b3.1, b3.2⟩⟩
theorem jpf_max : plainFor yJ9_max_7cf53 = true := by decide +kernel
theorem jpf_maxL : plainFor yJ9_max_f86c9 = true := by decide +kernel
theorem jpf_min : plainFor yJ9_min_7cf53 = true := by decide +kernel
theorem jpf_abs : plainFor yJ9_abs_067f4 = true := by decide +kernel
