/-! the model's row of steps beside the class's rows of acts -/
def oSt (o : Nat → Nat → Int32) (j : Nat) : Nat := qStp (fun _ => 0, o) j
def mSp (c : Nat → Int32) (pl : qP) (st : qOS) : Prop := ∀ j, j < st.2.2.2.1 → ¬ st.2.2.2.2 0 j = 16 → mBdy c pl (fun r => st.2.2.2.2 r j) (1819 + 8 * oSt st.2.2.2.2 j) ∧ (¬ oBlk (st.2.2.2.2 0 j) → c (1819 + 8 * oSt st.2.2.2.2 j + 7) = nI (oSt st.2.2.2.2 j + 1)) ∧ (oBlk (st.2.2.2.2 0 j) → (∀ i, i < st.1 → st.2.1 i ≠ j) → ∀ e, st.2.2.2.2 6 j = nI e → e < 60 → c (1819 + 8 * oSt st.2.2.2.2 j + 7) = nI (oSt st.2.2.2.2 e))
/-- later acts leave the counts of earlier ones -/
def oExt (st st' : qOS) : Prop := st.2.2.2.1 ≤ st'.2.2.2.1 ∧ ∀ j, j ≤ st.2.2.2.1 → oSt st'.2.2.2.2 j = oSt st.2.2.2.2 j
theorem oExt.rf {st : qOS} : oExt st st := ⟨Nat.le_refl _, fun _ _ => rfl⟩
theorem oExt.tr {a b c : qOS} (h : oExt a b) (h2 : oExt b c) : oExt a c := ⟨Nat.le_trans h.1 h2.1, fun j hj => (h2.2 j (Nat.le_trans hj h.1)).trans (h.2 j hj)⟩
theorem mBdy.congr {c c' : Nat → Int32} {pl : qP} {v v' : Nat → Int32} {w : Nat} (h : mBdy c pl v w) (e : ∀ r, r < 6 → v' r = v r) (ec : ∀ k, k < 7 → c' (w + k) = c (w + k)) : mBdy c' pl v' w := by
  have e0 : c' w = c w := ec 0 (by omega)
  unfold mBdy mTst
  rw [e 0 (by omega), e 1 (by omega), e 2 (by omega), e 3 (by omega), e 4 (by omega), e 5 (by omega), e0, ec 1 (by omega), ec 2 (by omega), ec 3 (by omega), ec 4 (by omega), ec 5 (by omega), ec 6 (by omega)]
  exact h
section MSP
variable {pl : qP} {dp s m : Nat} {sk : Nat → Nat} {o : Nat → Nat → Int32} {c c' : Nat → Int32}
theorem oSt_lt {j k : Nat} (h : j < k) (h16 : ¬ o 0 j = 16) : oSt o j < oSt o k := qStp_lt (o := (fun _ => 0, o)) h h16
theorem open_ext {k : Nat} {g : Nat → Int32} : oExt (dp, sk, s, m, o) (oOpen (dp, sk, s, m, o) k g) := by
  refine ⟨Nat.le_succ m, fun j hj => ?_⟩
  have hj' : j ≤ m := hj
  exact qStp_congr (fun a ha => by show oCol o m g 0 a = 16 ↔ o 0 a = 16; unfold oCol; rw [if_neg (by omega)])
theorem end_ext (bm : sk (dp - 1) < m) : oExt (dp, sk, s, m, o) (oEnd (dp, sk, s, m, o)) := by
  refine ⟨Nat.le_succ m, fun j hj => ?_⟩
  have hj' : j ≤ m := hj
  exact qStp_congr (fun a ha => by
    show oPut (oPut (oPut o 0 m 16) 6 m (nI (sk (dp - 1)))) 6 (sk (dp - 1)) (nI m) 0 a = 16 ↔ o 0 a = 16
    unfold oPut; rw [if_neg (by omega), if_neg (by omega), if_neg (by omega)])
theorem mSp.open_ {k : Nat} {g : Nat → Int32} (h : mSp c pl (dp, sk, s, m, o)) (w : oWl pl (dp, sk, s, m, o)) (g0 : g 0 = nI k) (hk : k < 26) (hc : ∀ q, q < 1819 + 8 * s → c' q = c q) (hb : mBdy c' pl g (1819 + 8 * s)) (h7 : ¬ (k = 10 ∨ k = 15) → c' (1819 + 8 * s + 7) = nI (s + 1)) : mSp c' pl (oOpen (dp, sk, s, m, o) k g) := by
  obtain ⟨⟨i1, i2, i3, i4⟩, w2, w3, w4, w5, w6, w7, w8⟩ := w
  dsimp only at i1 i2 i3 i4 w2 w3 w4 w5 w6 w7 w8
  have st : ∀ j, j ≤ m → oSt (oCol o m g) j = oSt o j := fun j hj => (open_ext (dp := dp) (sk := sk) (s := s) (m := m) (o := o) (k := k) (g := g)).2 j hj
  have sm : oSt o m = s := w2 _
  have fo : ∀ r a, a ≠ m → oCol o m g r a = o r a := fun r a ha => if_neg ha
  have fm : ∀ r, oCol o m g r m = g r := fun r => if_pos rfl
  intro j hj h16
  have hj' : j < m + 1 := hj
  have h16' : ¬ oCol o m g 0 j = 16 := h16
  show mBdy c' pl (fun r => oCol o m g r j) (1819 + 8 * oSt (oCol o m g) j) ∧ (¬ oBlk (oCol o m g 0 j) → c' (1819 + 8 * oSt (oCol o m g) j + 7) = nI (oSt (oCol o m g) j + 1)) ∧ (oBlk (oCol o m g 0 j) → (∀ i, i < (if k = 10 ∨ k = 15 then dp + 1 else dp) → (if k = 10 ∨ k = 15 then tset sk dp m else sk) i ≠ j) → ∀ e, oCol o m g 6 j = nI e → e < 60 → c' (1819 + 8 * oSt (oCol o m g) j + 7) = nI (oSt (oCol o m g) e))
  rw [st j (by omega)]
  by_cases e : j = m
  · subst e
    rw [sm, fm 0]
    have kb : oBlk (g 0) ↔ (k = 10 ∨ k = 15) := by
      rw [g0]
      have a1 : nI k = (10 : Int32) ↔ k = 10 := nI_eq (b := 10) (by omega) (by omega)
      have a2 : nI k = (15 : Int32) ↔ k = 15 := nI_eq (b := 15) (by omega) (by omega)
      unfold oBlk
      rw [a1, a2]
    refine ⟨hb.congr (fun r _ => fm r) (fun _ _ => rfl), fun nb => h7 (fun u => nb (kb.mpr u)), fun yb ns => ?_⟩
    have := ns dp (by rw [if_pos (kb.mp yb)]; omega)
    rw [if_pos (kb.mp yb)] at this
    exact absurd (by unfold tset; rw [if_pos rfl]) this
  · rw [fo 0 j e] at h16' ⊢
    rw [fo 6 j e]
    have lt := oSt_lt (o := o) (j := j) (k := m) (by omega) h16'
    rw [sm] at lt
    obtain ⟨a1, a2, a3⟩ := h j (show j < m by omega) h16'
    dsimp only at a1 a2 a3
    refine ⟨a1.congr (fun r _ => fo r j e) (fun q hq => hc _ (by omega)), fun nb => by rw [hc _ (by omega)]; exact a2 nb, fun yb ns q hq q6 => ?_⟩
    have nst : ∀ i, i < dp → sk i ≠ j := fun i hi u => by
      refine ns i (by split <;> omega) ?_
      split
      · unfold tset; rw [if_neg (by omega)]; exact u
      · exact u
    rcases w6 j (by omega) yb with ⟨i, hi, ei⟩ | ⟨e', e1, e2, e3, e4, e5⟩
    · exact absurd ei (nst i hi)
    · obtain rfl : q = e' := (nI_eq (by omega) (by omega)).mp (hq.symm.trans e3)
      rw [hc _ (by omega), st q (by omega)]
      exact a3 yb nst q hq q6
theorem mSp.end_ (h : mSp c pl (dp, sk, s, m, o)) (w : oWl pl (dp, sk, s, m, o)) (h0 : ¬ dp = 0) (hc : ∀ q, q ≠ 1819 + 8 * oSt o (sk (dp - 1)) + 7 → c' q = c q) (h7 : c' (1819 + 8 * oSt o (sk (dp - 1)) + 7) = nI s) : mSp c' pl (oEnd (dp, sk, s, m, o)) := by
  obtain ⟨⟨i1, i2, i3, i4⟩, w2, w3, w4, w5, w6, w7, w8⟩ := w
  dsimp only at i1 i2 i3 i4 w2 w3 w4 w5 w6 w7 w8
  have bm : sk (dp - 1) < m := i4 _ (by omega)
  have bb := w4 (dp - 1) (by omega)
  have st0 := fun j hj => (end_ext (dp := dp) (sk := sk) (s := s) (m := m) (o := o) bm).2 j hj
  have sm : oSt o m = s := w2 _
  unfold oEnd at st0
  dsimp only at st0
  generalize hB : sk (dp - 1) = B at bm bb hc h7 st0
  intro j hj h16
  unfold oEnd at hj h16 ⊢
  dsimp only at hj h16 ⊢
  rw [hB] at h16 ⊢
  generalize ho : oPut (oPut (oPut o 0 m 16) 6 m (nI B)) 6 B (nI m) = o' at h16 st0
  have f0 : ∀ a, a ≠ m → o' 0 a = o 0 a := fun a ha => by
    rw [← ho]; unfold oPut; rw [if_neg (by omega), if_neg (by omega), if_neg (by omega)]
  have f0m : o' 0 m = 16 := by
    rw [← ho]; unfold oPut; rw [if_neg (by omega), if_neg (by omega), if_pos ⟨rfl, rfl⟩]
  have fr : ∀ r, r ≠ 0 → r ≠ 6 → ∀ a, o' r a = o r a := fun r r0 r6 a => by
    rw [← ho]; unfold oPut; rw [if_neg (by omega), if_neg (by omega), if_neg (by omega)]
  have f6 : ∀ a, a ≠ m → a ≠ B → o' 6 a = o 6 a := fun a ha hb => by
    rw [← ho]; unfold oPut; rw [if_neg (by omega), if_neg (by omega), if_neg (by omega)]
  have f6B : o' 6 B = nI m := by
    rw [← ho]; unfold oPut; rw [if_pos ⟨rfl, rfl⟩]
  have jm : j ≠ m := fun u => h16 (by rw [u]; exact f0m)
  rw [st0 j (by omega), f0 j jm]
  rw [f0 j jm] at h16
  obtain ⟨a1, a2, a3⟩ := h j (show j < m by omega) h16
  dsimp only at a1 a2 a3
  have far : j ≠ B → oSt o j ≠ oSt o B := fun ne u => by
    rcases Nat.lt_or_ge j B with q | q
    · have := oSt_lt (o := o) q h16; omega
    · have := oSt_lt (o := o) (j := B) (k := j) (by omega) (oBlk_16 bb); omega
  have kept : ∀ q, q < 7 → c' (1819 + 8 * oSt o j + q) = c (1819 + 8 * oSt o j + q) := fun q hq => hc _ (by omega)
  refine ⟨a1.congr (fun r hr => ?_) kept, fun nb => ?_, fun yb ns e he e6 => ?_⟩
  · by_cases r0 : r = 0
    · rw [r0]; exact f0 j jm
    · exact fr r r0 (by omega) j
  · have jB : j ≠ B := fun u => nb (by rw [u]; exact bb)
    have := far jB
    rw [hc _ (by omega)]; exact a2 nb
  · by_cases jB : j = B
    · subst jB
      rw [f6B] at he
      obtain rfl : m = e := (nI_eq (by omega) (by omega)).mp he
      rw [h7, st0 m (Nat.le_refl _), sm]
    · have := far jB
      rw [f6 j jm jB] at he
      have nst : ∀ i, i < dp → sk i ≠ j := fun i hi u => by
        by_cases q : i = dp - 1
        · rw [q, hB] at u; exact jB u.symm
        · exact ns i (by omega) u
      rcases w6 j (by omega) yb with ⟨i, hi, ei⟩ | ⟨e', e1, e2, e3, e4, e5⟩
      · exact absurd ei (nst i hi)
      · obtain rfl : e = e' := (nI_eq (by omega) (by omega)).mp (he.symm.trans e3)
        rw [hc _ (by omega), st0 e (by omega)]
        exact a3 yb nst e he e6
end MSP
