theorem va_cpy0 {α : Type} {f g : Nat → α} {n k : Nat} (h : k < n) : va_cpy f g 0 0 n k = f k := by
  unfold va_cpy
  rw [if_pos ⟨Nat.zero_le _, by omega⟩]
  congr 1
  omega
abbrev qO : Type := (Nat → Int32) × (Nat → Nat → Int32)
abbrev qW : Type := qP × (Nat → Nat) × qO
/-- Orders of the class at place p: what its rows hold -/
def cOr (M : jM) (p : Nat) (o : qO) : Prop := M.1 p 0 = o.1 0 ∧ (o.1 0 = 0 ∨ o.1 0 = 1) ∧ M.1 p 1 = o.1 1 ∧ M.1 p 2 = o.1 2 ∧ (∃ n, n ≤ 60 ∧ o.1 2 = nI n ∧ ∀ r, r < 7 → ∀ a, a < n → M.1 (p + 1 + r) a = o.2 r a)
/-- a World of the class -/
def cWd (M : jM) (p : Nat) (w : qW) : Prop := cPl M (p + 1) w.1 ∧ (∀ c, c < 25 → M.1 (p + 10) c = nI (w.2.1 c)) ∧ (∀ c, w.2.1 c ≤ 99) ∧ cOr M (p + 11) w.2.2
theorem cOr.keep {M M' : jM} {p : Nat} {o : qO} (h : cOr M p o) (h1 : ∀ q, p ≤ q → q < p + 8 → M'.1 q = M.1 q) : cOr M' p o := by
  obtain ⟨a1, a2, a3, a4, n, a5, a6, a7⟩ := h
  have e := h1 p (by omega) (by omega)
  exact ⟨by rw [e, a1], a2, by rw [e, a3], by rw [e, a4], n, a5, a6, fun r hr a ha => by rw [h1 (p + 1 + r) (by omega) (by omega)]; exact a7 r hr a ha⟩
theorem cWd.keep {M M' : jM} {p : Nat} {w : qW} (h : cWd M p w) (h1 : ∀ q, p < q → q < p + 19 → q ≠ p + 9 → M'.1 q = M.1 q) (h2 : M'.2 (p + 5) = M.2 (p + 5)) : cWd M' p w := by
  obtain ⟨a1, a2, a3, a4⟩ := h
  exact ⟨a1.keep (fun q q1 q2 => h1 q (by omega) (by omega) (by omega)) h2, fun c hc => by rw [h1 (p + 10) (by omega) (by omega) (by omega)]; exact a2 c hc, a3, a4.keep (fun q q1 q2 => h1 q (by omega) (by omega) (by omega))⟩
section KP4
variable {x : jX} {tb : jT} {d : Nat} {M : jM} {p : Nat} {pl : qP}
theorem k_copyPl {P : jM → Prop} {o : Nat} (a0 : aX5 tb p) (b1 : aX5 tb o) (hp : cPl M o pl) (hd : o + 9 ≤ p ∨ p + 9 ≤ o) (h : ∀ M', jsame (fun q => p ≤ q ∧ q < p + 8) M M' → cPl M' p pl → P M') : JC x tb mX5_copyFrom (d + 1) [.ref (x.2.2.2 p), .ref (x.2.2.2 o)] M (jV P) := by
  refine b_X5_copyFrom a0 b1 ?_
  rintro M1 rfl M2 rfl M3 rfl M4 rfl M5 rfl
  refine ⟨by decide, by decide, ?_⟩
  rintro M6 rfl
  refine ⟨by decide, by decide, ?_⟩
  rintro M7 rfl
  refine ⟨by decide, by decide, ?_⟩
  rintro M8 rfl
  refine ⟨by decide, by decide, ?_⟩
  rintro M9 rfl
  refine ⟨by decide, by decide, ?_⟩
  rintro M10 rfl
  refine ⟨by decide, by decide, ?_⟩
  rintro M11 rfl
  refine ⟨by decide, by decide, ?_⟩
  rintro M12 rfl
  obtain ⟨c1, c2, c3, c4, c5, c6, c7, c8, c9, c10, c11, c12, c13⟩ := hp
  apply h
  · intro q hq
    simp only [not_and, Nat.not_lt] at hq
    refine ⟨?_, ?_⟩
    · simp (disch := omega) only [jrI_n, jrL_1]
    · simp (disch := omega) only [jrI_2, jrL_n]
  · refine ⟨?_, ?_, ?_, ?_, ?_, ?_, ?_, ?_, ?_, ?_, ?_, ?_, c13⟩
    · simp (disch := omega) only [jrI_n, jrL_1, jrI_s, pk_us, pk_un]; exact c1
    · simp (disch := omega) only [jrI_n, jrL_1, jrI_s, pk_us, pk_un]; exact c2
    · simp (disch := omega) only [jrI_n, jrL_1, jrI_s, pk_us, pk_un]; exact c3
    · simp (disch := omega) only [jrI_n, jrL_1, jrI_s, pk_us, pk_un]; exact c4
    · simp (disch := omega) only [jrI_n, jrL_1, jrI_s, pk_us, pk_un]; exact c5
    · intro c hc
      simp (disch := omega) only [jrI_n, jrL_1, jrI_s, va_cpy0]; exact c6 c hc
    · intro c hc
      simp (disch := omega) only [jrI_n, jrL_1, jrI_s, va_cpy0]; exact c7 c hc
    · intro c hc
      simp (disch := omega) only [jrI_n, jrL_1, jrI_s, va_cpy0]; exact c8 c hc
    · intro v hv
      have := c13.2.2.2.1
      simp (disch := omega) only [jrI_2, jrL_s, jrL_n, va_cpy0]; exact c9 v hv
    · intro v hv
      have := c13.2.2.2.1
      simp (disch := omega) only [jrI_n, jrL_1, jrI_s, va_cpy0]; exact c10 v hv
    · intro v s hv hk hs
      have h6 := c13.2.2.2.1
      have h9 := qSt_le c13 v
      simp (disch := omega) only [jrI_n, jrL_1, jrI_s, va_cpy0]; exact c11 v s hv hk hs
    · intro side c hs hc
      have := c13.c25
      simp (disch := omega) only [jrI_n, jrL_1, jrI_s, va_cpy0]; exact c12 side c hs hc
theorem k_copyOr {P : jM → Prop} {o : Nat} {od : qO} (a0 : aX3 tb p) (b1 : aX3 tb o) (hp : cOr M o od) (hd : o + 8 ≤ p ∨ p + 8 ≤ o) (h : ∀ M', jsame (fun q => p ≤ q ∧ q < p + 8) M M' → cOr M' p od → P M') : JC x tb mX3_copyFrom (d + 1) [.ref (x.2.2.2 p), .ref (x.2.2.2 o)] M (jV P) := by
  obtain ⟨c1, c2, c3, c4, n, c5, c6, c7⟩ := hp
  refine b_X3_copyFrom a0 b1 ⟨by rw [c1]; exact c2, ?_⟩
  rintro M1 rfl M2 rfl M3 rfl
  refine ⟨n, ?_, by omega, by omega, ?_⟩
  · simp (disch := omega) only [jrI_n, jrI_s, pk_us, pk_un]; rw [c4, c6]
  rintro M4 rfl
  refine ⟨n, ?_, by omega, by omega, ?_⟩
  · simp (disch := omega) only [jrI_n, jrI_s, pk_us, pk_un]; rw [c4, c6]
  rintro M5 rfl
  refine ⟨n, ?_, by omega, by omega, ?_⟩
  · simp (disch := omega) only [jrI_n, jrI_s, pk_us, pk_un]; rw [c4, c6]
  rintro M6 rfl
  refine ⟨n, ?_, by omega, by omega, ?_⟩
  · simp (disch := omega) only [jrI_n, jrI_s, pk_us, pk_un]; rw [c4, c6]
  rintro M7 rfl
  refine ⟨n, ?_, by omega, by omega, ?_⟩
  · simp (disch := omega) only [jrI_n, jrI_s, pk_us, pk_un]; rw [c4, c6]
  rintro M8 rfl
  refine ⟨n, ?_, by omega, by omega, ?_⟩
  · simp (disch := omega) only [jrI_n, jrI_s, pk_us, pk_un]; rw [c4, c6]
  rintro M9 rfl
  refine ⟨n, ?_, by omega, by omega, ?_⟩
  · simp (disch := omega) only [jrI_n, jrI_s, pk_us, pk_un]; rw [c4, c6]
  rintro M10 rfl
  apply h
  · intro q hq
    simp only [not_and, Nat.not_lt] at hq
    refine ⟨?_, rfl⟩
    simp (disch := omega) only [jrI_n]
  · refine ⟨?_, c2, ?_, ?_, n, c5, c6, ?_⟩
    · simp (disch := omega) only [jrI_n, jrI_s, pk_us, pk_un]; exact c1
    · simp (disch := omega) only [jrI_n, jrI_s, pk_us, pk_un]; exact c3
    · simp (disch := omega) only [jrI_n, jrI_s, pk_us, pk_un]; exact c4
    · intro r hr a ha
      have := c7 r hr a ha
      rcases (show r = 0 ∨ r = 1 ∨ r = 2 ∨ r = 3 ∨ r = 4 ∨ r = 5 ∨ r = 6 by omega) with rfl | rfl | rfl | rfl | rfl | rfl | rfl <;> simp only [Nat.add_assoc, Nat.reduceAdd] at this ⊢ <;> simp (disch := omega) only [jrI_n, jrI_s, va_cpy0] <;> exact this
theorem k_copyWd {P : jM → Prop} {o : Nat} {w : qW} (a0 : aX10 tb p) (b1 : aX10 tb o) (hp : cWd M o w) (hd : o + 19 ≤ p ∨ p + 19 ≤ o) (h : ∀ M', jsame (fun q => p < q ∧ q < p + 19) M M' → cWd M' p w → P M') : JC x tb mX10_copyFrom (d + 2) [.ref (x.2.2.2 p), .ref (x.2.2.2 o)] M (jV P) := by
  obtain ⟨c1, c2, c3, c4⟩ := hp
  refine b_X10_copyFrom a0 b1 (k_copyPl (aX10_5_1 a0) (aX10_5_1 b1) c1 (by omega) ?_)
  intro M1 e1 e2
  refine ⟨by decide, by decide, ?_⟩
  rintro M2 rfl
  have s1 : jsame (fun q => p < q ∧ q < p + 19) M M1 := e1.mono (fun q hq => by omega)
  refine k_copyOr (aX10_3_11 a0) (aX10_3_11 b1) (od := w.2.2) ?_ (by omega) ?_
  · refine c4.keep (fun q q1 q2 => ?_)
    rw [jrI_n (by omega), (e1 q (by omega)).1]
  · intro M3 e3 e4
    refine h M3 (s1.tr ((jsame.I (by omega)).tr (e3.mono (fun q hq => by omega)))) ⟨?_, ?_, c3, e4⟩
    · refine e2.keep (fun q q1 q2 => ?_) ?_
      · rw [(e3 q (by omega)).1, jrI_n (by omega)]
      · rw [(e3 _ (by omega)).2, jrI_2]
    · intro c hc
      rw [(e3 _ (by omega)).1, jrI_s, va_cpy0 hc, (e1 _ (by omega)).1]
      exact c2 c hc
/-- the world that a new plain begins with -/
def qW0 (pl : qP) : qW := (pl, qLeast pl, (fun _ => 0, fun _ _ => 0))
theorem k_settle {P : jM → Prop} {o : Nat} (a0 : aX10 tb p) (b1 : aX5 tb o) (hp : cPl M o pl) (hd : o + 19 ≤ p ∨ p + 19 ≤ o) (h : ∀ M', jsame (fun q => p < q ∧ q < p + 19) M M' → cWd M' p (qW0 pl) → P M') : JC x tb mX10_settle (d + 2) [.ref (x.2.2.2 p), .ref (x.2.2.2 o)] M (jV P) := by
  refine b_X10_settle a0 (k_copyPl (aX10_5_1 a0) b1 hp (by omega) ?_)
  intro M1 e1 e2
  refine ⟨by decide, by decide, ?_⟩
  rintro M2 rfl
  refine b_X3_begin (aX10_3_11 a0) ⟨Or.inl rfl, ?_⟩
  rintro M3 rfl M4 rfl M5 rfl
  refine h _ ?_ ⟨?_, ?_, hp.wf.2.2.2.2.2.2.2.1, ?_⟩
  · intro q hq
    simp only [not_and, Nat.not_lt] at hq
    have := e1 q (by omega)
    refine ⟨?_, this.2⟩
    simp (disch := omega) only [jrI_n]
    exact this.1
  · refine e2.keep (fun q q1 q2 => ?_) rfl
    simp (disch := omega) only [jrI_n]
  · intro c hc
    simp (disch := omega) only [jrI_n, jrI_s, va_cpy0]
    exact e2.least hc
  · refine ⟨?_, Or.inl rfl, ?_, ?_, 0, by decide, rfl, fun r _ a ha => absurd ha (Nat.not_lt_zero _)⟩
    · simp (disch := omega) only [jrI_s, pk_un, pk_us]; rfl
    · simp (disch := omega) only [jrI_s, pk_un, pk_us]; rfl
    · simp (disch := omega) only [jrI_s, pk_un, pk_us]; rfl
end KP4
