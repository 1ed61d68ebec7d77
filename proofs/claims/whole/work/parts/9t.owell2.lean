/-! orders that were read are well formed: blocks -/
def oBlk (v : Int32) : Prop := v = 10 ∨ v = 15
def oWl (pl : qP) (st : qOS) : Prop := oInv st ∧ (∀ c, qStp (c, st.2.2.2.2) st.2.2.2.1 = st.2.2.1) ∧ (∀ i j, i < j → j < st.1 → st.2.1 i < st.2.1 j) ∧ (∀ i, i < st.1 → oBlk (st.2.2.2.2 0 (st.2.1 i))) ∧ (∀ a, a < st.2.2.2.1 → oBd pl (fun r => st.2.2.2.2 r a)) ∧ (∀ a, a < st.2.2.2.1 → oBlk (st.2.2.2.2 0 a) → (∃ i, i < st.1 ∧ st.2.1 i = a) ∨ ∃ e, a < e ∧ e < st.2.2.2.1 ∧ st.2.2.2.2 6 a = nI e ∧ st.2.2.2.2 0 e = 16 ∧ st.2.2.2.2 6 e = nI a) ∧ (∀ b, b < st.2.2.2.1 → st.2.2.2.2 0 b = 16 → ∃ q, q < b ∧ st.2.2.2.2 6 b = nI q ∧ oBlk (st.2.2.2.2 0 q) ∧ st.2.2.2.2 6 q = nI b ∧ ∀ i, i < st.1 → st.2.1 i < q ∨ b < st.2.1 i) ∧ ∀ c, oNest (c, st.2.2.2.2) st.2.2.2.1
theorem oBlk_16 {v : Int32} (h : oBlk v) : ¬ v = 16 := by
  rintro rfl
  rcases h with h | h
  · exact absurd h (by decide)
  · exact absurd h (by decide)
theorem oBd.congr {pl : qP} {v v' : Nat → Int32} (h : oBd pl v) (e : ∀ r, r < 6 → v' r = v r) : oBd pl v' := by
  unfold oBd
  rw [e 0 (by omega), e 1 (by omega), e 2 (by omega), e 3 (by omega), e 4 (by omega), e 5 (by omega)]
  exact h
section OW2
variable {pl : qP} {dp s m : Nat} {sk : Nat → Nat} {o : Nat → Nat → Int32}
theorem oWl.end_ (w : oWl pl (dp, sk, s, m, o)) (h0 : ¬ dp = 0) : oWl pl (oEnd (dp, sk, s, m, o)) := by
  obtain ⟨⟨i1, i2, i3, i4⟩, w2, w3, w4, w5, w6, w7, w8⟩ := w
  dsimp only at i1 i2 i3 i4 w2 w3 w4 w5 w6 w7 w8
  have bm : sk (dp - 1) < m := i4 _ (by omega)
  have bb := w4 (dp - 1) (by omega)
  generalize hB : sk (dp - 1) = B at bm bb
  unfold oEnd
  dsimp only
  rw [hB]
  generalize ho : oPut (oPut (oPut o 0 m 16) 6 m (nI B)) 6 B (nI m) = o'
  have f0 : ∀ a, a ≠ m → o' 0 a = o 0 a := fun a ha => by
    rw [← ho]; unfold oPut; rw [if_neg (by omega), if_neg (by omega), if_neg (by omega)]
  have f0m : o' 0 m = 16 := by
    rw [← ho]; unfold oPut; rw [if_neg (by omega), if_neg (by omega), if_pos ⟨rfl, rfl⟩]
  have fr : ∀ r, r ≠ 0 → r ≠ 6 → ∀ a, o' r a = o r a := fun r r0 r6 a => by
    rw [← ho]; unfold oPut; rw [if_neg (by omega), if_neg (by omega), if_neg (by omega)]
  have f6 : ∀ a, a ≠ m → a ≠ B → o' 6 a = o 6 a := fun a ha hb => by
    rw [← ho]; unfold oPut; rw [if_neg (by omega), if_neg (by omega), if_neg (by omega)]
  have f6m : o' 6 m = nI B := by
    rw [← ho]; unfold oPut; rw [if_neg (by omega), if_pos ⟨rfl, rfl⟩]
  have f6B : o' 6 B = nI m := by
    rw [← ho]; unfold oPut; rw [if_pos ⟨rfl, rfl⟩]
  have k16 : ¬ o 0 B = 16 := oBlk_16 bb
  have bB : oBlk (o' 0 B) := by rw [f0 B (by omega)]; exact bb
  refine ⟨⟨?_, i2, ?_, fun i hi => ?_⟩, fun c => ?_, fun i j hi hj => ?_, fun i hi => ?_, fun a ha => ?_, fun a ha hb => ?_, fun b hb h16 => ?_, fun c => ?_⟩
  · show dp - 1 ≤ 3
    omega
  · show m + 1 + (dp - 1) ≤ 2 * s
    omega
  · have hi' : i < dp - 1 := hi
    have := i4 i (by omega)
    show sk i < m + 1
    omega
  · show qStp (c, o') m + (if o' 0 m = 16 then 0 else 1) = s
    rw [if_pos f0m, qStp_congr (o := (c, o)) (fun a ha => by show o' 0 a = 16 ↔ o 0 a = 16; rw [f0 a (by omega)])]
    exact w2 c
  · have hj' : j < dp - 1 := hj
    exact w3 i j hi (by omega)
  · have hi' : i < dp - 1 := hi
    have := i4 i (by omega)
    show oBlk (o' 0 (sk i))
    rw [f0 _ (by omega)]; exact w4 i (by omega)
  · have ha' : a < m + 1 := ha
    by_cases e : a = m
    · exact Or.inr (Or.inr (Or.inr (Or.inr (Or.inr (by show o' 0 a = 16; rw [e]; exact f0m)))))
    · refine (w5 a (by omega)).congr (fun r hr => ?_)
      show o' r a = o r a
      by_cases r0 : r = 0
      · rw [r0]; exact f0 a e
      · exact fr r r0 (by omega) a
  · have ha' : a < m + 1 := ha
    have hb' : oBlk (o' 0 a) := hb
    have am : a ≠ m := fun e => oBlk_16 hb' (by rw [e]; exact f0m)
    show (∃ i, i < dp - 1 ∧ sk i = a) ∨ ∃ e, a < e ∧ e < m + 1 ∧ o' 6 a = nI e ∧ o' 0 e = 16 ∧ o' 6 e = nI a
    by_cases aB : a = B
    · rw [aB]; exact Or.inr ⟨m, bm, by omega, f6B, f0m, f6m⟩
    · rw [f0 a am] at hb'
      rcases w6 a (by omega) hb' with ⟨i, hi, e⟩ | ⟨e, e1, e2, e3, e4, e5⟩
      · by_cases q : i = dp - 1
        · rw [q, hB] at e; exact absurd e.symm aB
        · exact Or.inl ⟨i, by omega, e⟩
      · have eB : e ≠ B := fun u => k16 (by rw [← u]; exact e4)
        exact Or.inr ⟨e, e1, by omega, by rw [f6 a am aB]; exact e3, by rw [f0 e (by omega)]; exact e4, by rw [f6 e (by omega) eB]; exact e5⟩
  · have hb' : b < m + 1 := hb
    have h16' : o' 0 b = 16 := h16
    show ∃ q, q < b ∧ o' 6 b = nI q ∧ oBlk (o' 0 q) ∧ o' 6 q = nI b ∧ ∀ i, i < dp - 1 → sk i < q ∨ b < sk i
    by_cases e : b = m
    · rw [e]
      exact ⟨B, bm, f6m, bB, f6B, fun i hi => Or.inl (by rw [← hB]; exact w3 i (dp - 1) hi (by omega))⟩
    · rw [f0 b e] at h16'
      obtain ⟨q, q1, q2, q3, q4, q5⟩ := w7 b (by omega) h16'
      have bB' : b ≠ B := fun u => k16 (by rw [← u]; exact h16')
      have := q5 (dp - 1) (by omega)
      rw [hB] at this
      exact ⟨q, q1, by rw [f6 b e bB']; exact q2, by rw [f0 q (by omega)]; exact q3, by rw [f6 q (by omega) (by omega)]; exact q4, fun i hi => q5 i (by omega)⟩
  · show oNest (c, o') (m + 1)
    intro a e b ae em h1 h2 h3 ab be
    dsimp only at h1 h2 h3 ⊢
    by_cases e1 : e = m
    · subst e1
      rw [f6m] at h3
      obtain rfl : B = a := (nI_eq (by omega) (by omega)).mp h3
      rw [f0 b (by omega), f6 b (by omega) (by omega)]
      refine ⟨fun bl => ?_, fun b16 => ?_⟩
      · rcases w6 b be bl with ⟨i, hi, ei⟩ | ⟨q, q1, q2, q3, q4, q5⟩
        · exfalso
          by_cases q : i = dp - 1
          · rw [q, hB] at ei; omega
          · have := w3 i (dp - 1) (by omega) (by omega)
            rw [hB] at this
            omega
        · exact ⟨q, q1, q2, q3⟩
      · obtain ⟨q, q1, q2, q3, q4, q5⟩ := w7 b be b16
        have := q5 (dp - 1) (by omega)
        rw [hB] at this
        exact ⟨q, by omega, q1, q2⟩
    · have aB : a ≠ B := fun u => by
        rw [u, f6B] at h1
        exact e1 ((nI_eq (by omega) (by omega)).mp h1).symm
      rw [f0 e e1] at h2
      have eB : e ≠ B := fun u => k16 (by rw [← u]; exact h2)
      rw [f6 e e1 eB] at h3
      rw [f6 a (by omega) aB] at h1
      have bB2 : b ≠ B := fun u => by
        obtain ⟨q, q1, q2, q3, q4, q5⟩ := w7 e (by omega) h2
        obtain rfl : q = a := (nI_eq (by omega) (by omega)).mp (q2.symm.trans h3)
        have := q5 (dp - 1) (by omega)
        rw [hB] at this
        omega
      rw [f0 b (by omega), f6 b (by omega) bB2]
      exact w8 c a e b ae (by omega) h1 h2 h3 ab be
theorem oWl.open_ {k : Nat} {g : Nat → Int32} (w : oWl pl (dp, sk, s, m, o)) (hk : k = 6 ∨ k = 7 ∨ k = 9 ∨ k = 10 ∨ k = 15 ∨ k = 17) (n30 : ¬ 30 ≤ s) (n3 : ¬ ((k = 10 ∨ k = 15) ∧ 3 ≤ dp)) (g0 : g 0 = nI k) (hb : oBd pl g) : oWl pl (oOpen (dp, sk, s, m, o) k g) := by
  obtain ⟨⟨i1, i2, i3, i4⟩, w2, w3, w4, w5, w6, w7, w8⟩ := w
  dsimp only at i1 i2 i3 i4 w2 w3 w4 w5 w6 w7 w8
  have g16 : ¬ g 0 = 16 := fun u => by
    rw [g0] at u
    have : k = 16 := (nI_eq (b := 16) (by omega) (by omega)).mp u
    omega
  have gb : oBlk (g 0) ↔ (k = 10 ∨ k = 15) := by
    rw [g0]
    have a1 : nI k = (10 : Int32) ↔ k = 10 := nI_eq (b := 10) (by omega) (by omega)
    have a2 : nI k = (15 : Int32) ↔ k = 15 := nI_eq (b := 15) (by omega) (by omega)
    unfold oBlk
    rw [a1, a2]
  unfold oOpen
  dsimp only
  generalize hd : (if k = 10 ∨ k = 15 then dp + 1 else dp) = dp'
  generalize hs : (if k = 10 ∨ k = 15 then tset sk dp m else sk) = sk'
  have dpo : (dp' = dp + 1 ∧ (k = 10 ∨ k = 15)) ∨ (dp' = dp ∧ ¬ (k = 10 ∨ k = 15)) := by
    by_cases q : k = 10 ∨ k = 15
    · rw [if_pos q] at hd; exact Or.inl ⟨hd.symm, q⟩
    · rw [if_neg q] at hd; exact Or.inr ⟨hd.symm, q⟩
  have skl : ∀ i, i < dp → sk' i = sk i := fun i hi => by
    rw [← hs]
    split
    · unfold tset; rw [if_neg (by omega)]
    · rfl
  have skd : (k = 10 ∨ k = 15) → sk' dp = m := fun q => by
    rw [← hs, if_pos q]; unfold tset; rw [if_pos rfl]
  have fo : ∀ r a, a ≠ m → oCol o m g r a = o r a := fun r a ha => if_neg ha
  have fm : ∀ r, oCol o m g r m = g r := fun r => if_pos rfl
  refine ⟨⟨?_, ?_, ?_, fun i hi => ?_⟩, fun c => ?_, fun i j hi hj => ?_, fun i hi => ?_, fun a ha => ?_, fun a ha hb' => ?_, fun b hb' h16 => ?_, fun c => ?_⟩
  · show dp' ≤ 3
    omega
  · show s + 1 ≤ 30
    omega
  · show m + 1 + dp' ≤ 2 * (s + 1)
    omega
  · have hi' : i < dp' := hi
    show sk' i < m + 1
    by_cases q : i < dp
    · rw [skl i q]; have := i4 i q; omega
    · obtain rfl : i = dp := by omega
      rw [skd (by omega)]; omega
  · show qStp (c, oCol o m g) m + (if oCol o m g 0 m = 16 then 0 else 1) = s + 1
    rw [fm, if_neg g16, qStp_congr (o := (c, o)) (fun a ha => by show oCol o m g 0 a = 16 ↔ o 0 a = 16; rw [fo 0 a (by omega)]), w2 c]
  · have hj' : j < dp' := hj
    show sk' i < sk' j
    rw [skl i (by omega)]
    by_cases q : j < dp
    · rw [skl j q]; exact w3 i j hi q
    · obtain rfl : j = dp := by omega
      rw [skd (by omega)]; exact i4 i (by omega)
  · have hi' : i < dp' := hi
    show oBlk (oCol o m g 0 (sk' i))
    by_cases q : i < dp
    · have := i4 i q
      rw [skl i q, fo 0 _ (by omega)]; exact w4 i q
    · obtain rfl : i = dp := by omega
      rw [skd (by omega), fm]; exact gb.mpr (by omega)
  · have ha' : a < m + 1 := ha
    by_cases e : a = m
    · exact hb.congr (fun r _ => by show oCol o m g r a = g r; rw [e, fm])
    · exact (w5 a (by omega)).congr (fun r _ => fo r a e)
  · have ha' : a < m + 1 := ha
    have hb2 : oBlk (oCol o m g 0 a) := hb'
    show (∃ i, i < dp' ∧ sk' i = a) ∨ ∃ e, a < e ∧ e < m + 1 ∧ oCol o m g 6 a = nI e ∧ oCol o m g 0 e = 16 ∧ oCol o m g 6 e = nI a
    by_cases e : a = m
    · rw [e, fm] at hb2
      have q := gb.mp hb2
      exact Or.inl ⟨dp, by omega, by rw [skd q]; exact e.symm⟩
    · rw [fo 0 a e] at hb2
      rcases w6 a (by omega) hb2 with ⟨i, hi, ei⟩ | ⟨q, q1, q2, q3, q4, q5⟩
      · exact Or.inl ⟨i, by omega, by rw [skl i hi]; exact ei⟩
      · exact Or.inr ⟨q, q1, by omega, by rw [fo 6 a e]; exact q3, by rw [fo 0 q (by omega)]; exact q4, by rw [fo 6 q (by omega)]; exact q5⟩
  · have hb2 : b < m + 1 := hb'
    have h16' : oCol o m g 0 b = 16 := h16
    have bm : b ≠ m := fun e => g16 (by rw [e, fm] at h16'; exact h16')
    rw [fo 0 b bm] at h16'
    obtain ⟨q, q1, q2, q3, q4, q5⟩ := w7 b (by omega) h16'
    refine ⟨q, q1, (fo 6 b bm).trans q2, ?_, ?_, fun i hi => ?_⟩
    · show oBlk (oCol o m g 0 q)
      rw [fo 0 q (by omega)]; exact q3
    · show oCol o m g 6 q = nI b
      rw [fo 6 q (by omega)]; exact q4
    · have hi' : i < dp' := hi
      show sk' i < q ∨ b < sk' i
      by_cases u : i < dp
      · rw [skl i u]; exact q5 i u
      · obtain rfl : i = dp := by omega
        rw [skd (by omega)]; exact Or.inr (by omega)
  · show oNest (c, oCol o m g) (m + 1)
    intro a e b ae em h1 h2 h3 ab be
    dsimp only at h1 h2 h3 ⊢
    have e1 : e ≠ m := fun u => g16 (by rw [u, fm] at h2; exact h2)
    rw [fo 0 e e1] at h2
    rw [fo 6 e e1] at h3
    rw [fo 6 a (by omega)] at h1
    rw [fo 0 b (by omega), fo 6 b (by omega)]
    exact w8 c a e b ae (by omega) h1 h2 h3 ab be
end OW2
section OW3
variable {f : Nat → Int32} {n : Nat} {pl : qP}
theorem oStep_wl {a a' : Nat} {st st' : qOS} (ha : a ≤ n) (w : oWl pl st) (h : oStep f n a pl st = .inr (a', st')) : oWl pl st' := by
  have hx := yX_le (f := f) ha
  obtain ⟨dp, sk, s, m, o⟩ := st
  unfold oStep at h
  dsimp only at h
  split at h
  · split at h
    · cases h
    · rename_i d0
      obtain ⟨o1, o2, rfl⟩ := tkS_ok hx h
      exact w.end_ d0
  · split at h
    · rename_i kd
      split at h
      · cases h
      · rename_i s30
        split at h
        · cases h
        · rename_i nd
          obtain ⟨b, g, e1, e2⟩ := eB_ok h
          obtain ⟨o1, o2⟩ := pRest_go hx _ e1
          obtain ⟨o3, o4, rfl⟩ := tkS_ok o2 e2
          obtain ⟨z0, bd⟩ := pRest_bd kd hx (aSet_s (g := fun r => o r m) (k := 0)) e1
          exact w.open_ kd s30 nd z0 bd
    · cases h
theorem oLoop_wl : ∀ k {a : Nat} {st st' : qOS}, a ≤ n → oWl pl st → oLoop f n pl k a st = .inr st' → oWl pl st' ∧ st'.1 = 0 := by
  intro k
  induction k with
  | zero =>
    intro a st st' ha w h
    rw [oLoop] at h
    split at h
    · rename_i d0
      cases h; exact ⟨w, d0⟩
    · cases h
  | succ k ih =>
    intro a st st' ha w h
    rw [oLoop] at h
    split at h
    · split at h
      · rename_i d0
        cases h; exact ⟨w, d0⟩
      · cases h
    · cases hs : oStep f n a pl st with
      | inl e => rw [hs] at h; cases h
      | inr p =>
        rw [hs] at h
        dsimp only at h
        exact ih (oStep_ok ha w.1 (show oStep f n a pl st = .inr (p.1, p.2) from hs)).2.1 (oStep_wl ha w (show oStep f n a pl st = .inr (p.1, p.2) from hs)) h
theorem qOrd_ok {g0 : Nat → Nat → Int32} {st : qOS} (h : qOrd f n pl g0 = .inr st) : oOk pl (oMk st) := by
  have w0 : oWl pl (0, fun _ => 0, 0, 0, g0) := ⟨⟨Nat.zero_le _, Nat.zero_le _, Nat.le_refl _, fun i hi => absurd hi (Nat.not_lt_zero _)⟩, fun _ => rfl, fun i j _ hj => absurd hj (Nat.not_lt_zero _), fun i hi => absurd hi (Nat.not_lt_zero _), fun i hi => absurd hi (Nat.not_lt_zero _), fun i hi => absurd hi (Nat.not_lt_zero _), fun i hi => absurd hi (Nat.not_lt_zero _), fun c a e b _ he => absurd he (Nat.not_lt_zero _)⟩
  obtain ⟨⟨⟨i1, i2, i3, i4⟩, w2, w3, w4, w5, w6, w7, w8⟩, d0⟩ := oLoop_wl n (Nat.zero_le _) w0 h
  obtain ⟨dp, sk, s, m, o⟩ := st
  dsimp only at i1 i2 i3 i4 w2 w3 w4 w5 w6 w7 w8 d0
  subst d0
  intro _
  have e : qStp (oMk (0, sk, s, m, o)) m = s := w2 _
  refine ⟨m, by omega, rfl, ?_, by rw [e]; exact i2, fun a ha => ?_, w8 _⟩
  · rw [e]; rfl
  · have blk : oBlk (o 0 a) → ∃ e, a < e ∧ e < m ∧ o 6 a = nI e ∧ o 0 e = 16 ∧ o 6 e = nI a := fun hb => by
      rcases w6 a ha hb with ⟨i, hi, _⟩ | q
      · exact absurd hi (Nat.not_lt_zero _)
      · exact q
    show oAct pl (oMk (0, sk, s, m, o)) m a
    unfold oAct oMk
    dsimp only
    rcases w5 a ha with q | q | q | q | q | q
    · exact Or.inl q
    · exact Or.inr (Or.inl q)
    · exact Or.inr (Or.inr (Or.inl q))
    · exact Or.inr (Or.inr (Or.inr (Or.inl ⟨q.1, q.2, blk (Or.inr q.1)⟩)))
    · exact Or.inr (Or.inr (Or.inr (Or.inr (Or.inl ⟨q.1, blk (Or.inl q.1), q.2⟩))))
    · obtain ⟨b, b1, b2, b3, b4, -⟩ := w7 a ha q
      exact Or.inr (Or.inr (Or.inr (Or.inr (Or.inr ⟨q, b, b1, b2, b3, b4⟩))))
end OW3
