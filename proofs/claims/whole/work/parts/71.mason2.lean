theorem qRage_all (cells : Nat) (s : qR) (h : ∀ c, rT s c ≤ 99) (hd : rD s < 65536) : ∀ k, (∀ c, rT (qRage cells k s) c ≤ 99) ∧ rD (qRage cells k s) < 65536 ∧ rS (qRage cells k s) = rS s ∧ rL (qRage cells k s) = rL s ∧ rK (qRage cells k s) ≤ rK s + k ∧ rO (qRage cells k s) = rO s ∧ rF (qRage cells k s) = rF s
  | 0 => ⟨h, hd, rfl, rfl, Nat.le_refl _, rfl, rfl⟩
  | k + 1 => by
    obtain ⟨a1, a2, a3, a4, a5, a6, a7⟩ := qRage_all cells s h hd k
    rw [qRage]
    generalize qRage cells k s = u at *
    have a8 : ∀ c, rT (qDrw u) c ≤ 99 := a1
    have a9 : rK (qDrw u) = rK u := rfl
    have a10 : rD (qDrw u) < 65536 := Nat.mod_lt _ (by omega)
    have a11 : rS (qDrw u) = rS s := a3
    have a12 : rL (qDrw u) = rL s := a4
    have a13 : rO (qDrw u) = rO s := a6
    have a14 : rF (qDrw u) = rF s := a7
    generalize qDrw u = v at *
    generalize rD v / 8 % cells = c0
    have l1 : min 1 (rT v c0) ≤ 1 := Nat.min_le_left _ _
    exact ⟨tset_le a8 (Nat.le_trans (Nat.sub_le _ _) (a8 c0)), a10, a11, a12, (show rK v + min 1 (rT v c0) ≤ rK s + (k + 1) by omega), a13, a14⟩
theorem oN_of {o : qO} {r a m : Nat} (h : o.2 r a = nI m) (hm : m < 2 ^ 31) : oN o r a = m := by
  unfold oN
  rw [h, nI_clamp hm]
/-- the acts that are no blocks -/
def oPlain (pl : qP) (o : qO) (a : Nat) : Prop := ((o.2 0 a = 6 ∨ o.2 0 a = 7) ∧ (∃ c, c < qc pl ∧ o.2 2 a = nI c) ∧ oNm (o.2 5 a) 1 99) ∨ (o.2 0 a = 9 ∧ oNm (o.2 5 a) 1 99) ∨ o.2 0 a = 17
theorem act_plain {pl : qP} {o : qO} {N a : Nat} (h : oAct pl o N a) (h1 : ¬ (o.2 0 a = 10 ∨ o.2 0 a = 15)) (h2 : ¬ o.2 0 a = 16) : oPlain pl o a := by
  unfold oAct at h
  rcases h with h | h | h | h | h | h
  · exact Or.inl h
  · exact Or.inr (Or.inl h)
  · exact Or.inr (Or.inr h)
  · exact absurd (Or.inr h.1) h1
  · exact absurd (Or.inl h.1) h1
  · exact absurd h.1 h2
theorem rOk.plain {pl : qP} {o : qO} {a : Nat} {s : qR} (h : rOk s) (h4 : rS s < 400) (hp : oPlain pl o a) : rOk (qDo pl o a (qInc s)) := by
  obtain ⟨a1, a2, a3, a4, a5⟩ := h
  unfold qDo
  rcases hp with ⟨q, ⟨c, hc, e2⟩, ⟨m, m1, m2, e5⟩⟩ | ⟨q, ⟨m, m1, m2, e5⟩⟩ | q
  · rcases q with q | q
    · rw [if_pos q]
      have l1 : min (oN o 5 a) (99 - rT s (oN o 2 a)) ≤ 99 - rT s (oN o 2 a) := Nat.min_le_right _ _
      have t := a1 (oN o 2 a)
      refine ⟨tset_le a1 ?_, a2, (show rS s + 1 ≤ 400 by omega), (show rL s + min _ _ ≤ 99 * (rS s + 1) from ?_), (show rK s ≤ 99 * (rS s + 1) by omega)⟩
      · show rT s (oN o 2 a) + min (oN o 5 a) (99 - rT s (oN o 2 a)) ≤ 99
        omega
      · show rL s + min (oN o 5 a) (99 - rT s (oN o 2 a)) ≤ 99 * (rS s + 1)
        omega
    · rw [if_neg (by rw [q]; decide), if_pos q]
      have l1 : min (oN o 5 a) (rT s (oN o 2 a)) ≤ rT s (oN o 2 a) := Nat.min_le_right _ _
      have t := a1 (oN o 2 a)
      refine ⟨tset_le a1 (Nat.le_trans (Nat.sub_le _ _) t), a2, (show rS s + 1 ≤ 400 by omega), (show rL s ≤ 99 * (rS s + 1) by omega), ?_⟩
      show rK s + min (oN o 5 a) (rT s (oN o 2 a)) ≤ 99 * (rS s + 1)
      omega
  · rw [if_neg (by rw [q]; decide), if_neg (by rw [q]; decide), if_pos q]
    by_cases c : qc pl = 0
    · rw [if_pos c]
      exact ⟨a1, a2, (show rS s + 1 ≤ 400 by omega), (show rL s ≤ 99 * (rS s + 1) by omega), (show rK s ≤ 99 * (rS s + 1) by omega)⟩
    · rw [if_neg c, oN_of e5 (by omega)]
      obtain ⟨b1, b2, b3, b4, b5, _, _⟩ := qRage_all (qc pl) (qInc s) a1 a2 m
      have c3 : rS (qInc s) = rS s + 1 := rfl
      have c4 : rL (qInc s) = rL s := rfl
      have c5 : rK (qInc s) = rK s := rfl
      exact ⟨b1, b2, by omega, by omega, by omega⟩
  · rw [if_neg (by rw [q]; decide), if_neg (by rw [q]; decide), if_neg (by rw [q]; decide)]
    exact ⟨a1, a2, (show rS s + 1 ≤ 400 by omega), (show rL s ≤ 99 * (rS s + 1) by omega), (show rK s ≤ 99 * (rS s + 1) by omega)⟩
/-- the class's Mason over heights at place p -/
def cMs (M0 : jM) (p : Nat) (M : jM) (s : qR) : Prop := jsame (fun q => q = p ∨ q = 38 ∨ q = 70 ∨ q = 71) M0 M ∧ M.2 = M0.2 ∧ (∀ c, c < 25 → M.1 p c = nI (rT s c)) ∧ M.1 70 0 = nI (rS s) ∧ M.1 70 1 = nI (rL s) ∧ M.1 70 2 = nI (rK s) ∧ M.1 70 3 = nI (rF s) ∧ M.1 70 5 = nI (rD s) ∧ rOk s
section CMS
variable {x : jX} {d : Nat} {M M0 : jM} {pl : qP} {o : qO} {p N : Nat} {s : qR}
theorem k_take {P : jM → Prop} {c m n : Nat} (so : js jtbC p = (20, n)) (hn : n < 2 ^ 31) (h25 : 25 ≤ n) (hp : p ≠ 70) (hc : c < 25) (hm : m < 2 ^ 30) (r39 : ∀ c, c < 25 → M.1 p c = nI (rT s c)) (t9 : ∀ c, rT s c ≤ 99) (r2 : M.1 70 2 = nI (rK s))
    (h : ∀ M', jsame (fun q => q = p ∨ q = 70) M M' → M'.2 = M.2 → (∀ c', c' < 25 → M'.1 p c' = nI (rT (qTake s c m) c')) → (∀ k, k ≠ 2 → M'.1 70 k = M.1 70 k) → M'.1 70 2 = nI (rK (qTake s c m)) → P M') : JC x jtbC mX2_take (d + 1) [.ref (x.2.2.2 70), .ref (x.2.2.2 p), .int (nI c), .int (nI m)] M (jV P) := by
  have t := t9 c
  refine b_X2_take so hn ⟨c, by omega, rfl, ?_⟩
  rw [r39 c hc]
  refine k_minN (by omega) (by omega) ?_
  have ml : min m (rT s c) ≤ rT s c := Nat.min_le_right _ _
  rw [r39 c hc, pk_sub ml]
  intro M2 e2 M3 e3
  refine h M3 ?_ ?_ (fun c' hc' => ?_) (fun k hk => ?_) ?_
  · rw [e3, e2]; exact (jsame.I (Or.inl rfl)).tr (jsame.I (Or.inr rfl))
  · rw [e3, e2]; rfl
  · rw [e3, jrI_n hp, e2, jrI_s]
    show _ = nI (tset (rT s) c (rT s c - min m (rT s c)) c')
    unfold tset
    by_cases q : c' = c
    · rw [if_pos q, q, pk_us]
    · rw [if_neg q, pk_un q]; exact r39 c' hc'
  · rw [e3, jrI_s, pk_un hk, e2, jrI_n (Ne.symm hp)]
  · rw [e3, jrI_s, pk_us, e2, jrI_n (Ne.symm hp), r2, nI_add]; rfl
theorem k_lay2 {P : jM → Prop} {c m n : Nat} (so : js jtbC p = (20, n)) (hn : n < 2 ^ 31) (h25 : 25 ≤ n) (hp : p ≠ 70) (hc : c < 25) (hm : m < 2 ^ 30) (r39 : ∀ c, c < 25 → M.1 p c = nI (rT s c)) (t9 : ∀ c, rT s c ≤ 99) (r2 : M.1 70 1 = nI (rL s))
    (h : ∀ M', jsame (fun q => q = p ∨ q = 70) M M' → M'.2 = M.2 → (∀ c', c' < 25 → M'.1 p c' = nI (rT (qLay s c m) c')) → (∀ k, k ≠ 1 → M'.1 70 k = M.1 70 k) → M'.1 70 1 = nI (rL (qLay s c m)) → P M') : JC x jtbC mX2_lay (d + 1) [.ref (x.2.2.2 70), .ref (x.2.2.2 p), .int (nI c), .int (nI m)] M (jV P) := by
  have t := t9 c
  refine b_X2_lay so hn ⟨c, by omega, rfl, ?_⟩
  rw [r39 c hc, jn99, pk_sub t]
  refine k_minN (by omega) (by omega) ?_
  rw [r39 c hc, nI_add]
  intro M2 e2 M3 e3
  refine h M3 ?_ ?_ (fun c' hc' => ?_) (fun k hk => ?_) ?_
  · rw [e3, e2]; exact (jsame.I (Or.inl rfl)).tr (jsame.I (Or.inr rfl))
  · rw [e3, e2]; rfl
  · rw [e3, jrI_n hp, e2, jrI_s]
    show _ = nI (tset (rT s) c (rT s c + min m (99 - rT s c)) c')
    unfold tset
    by_cases q : c' = c
    · rw [if_pos q, q, pk_us]
    · rw [if_neg q, pk_un q]; exact r39 c' hc'
  · rw [e3, jrI_s, pk_un hk, e2, jrI_n (Ne.symm hp)]
  · rw [e3, jrI_s, pk_us, e2, jrI_n (Ne.symm hp), r2, nI_add]; rfl
theorem k_rage {P : jM → Prop} {m n C : Nat} (so : js jtbC p = (20, n)) (hn : n < 2 ^ 31) (h25 : 25 ≤ n) (hp : p ≠ 70) (hC : C ≤ 25) (hC0 : 0 < C) (hm : m ≤ 99) (r39 : ∀ c, c < 25 → M.1 p c = nI (rT s c)) (t9 : ∀ c, rT s c ≤ 99) (hd : rD s < 65536) (r2 : M.1 70 2 = nI (rK s)) (r5 : M.1 70 5 = nI (rD s))
    (h : ∀ M', jsame (fun q => q = p ∨ q = 70) M M' → M'.2 = M.2 → (∀ c', c' < 25 → M'.1 p c' = nI (rT (qRage C m s) c')) → (∀ k, k ≠ 2 → k ≠ 5 → M'.1 70 k = M.1 70 k) → M'.1 70 2 = nI (rK (qRage C m s)) → M'.1 70 5 = nI (rD (qRage C m s)) → P M') : JC x jtbC mX2_rage (d + 2) [.ref (x.2.2.2 70), .ref (x.2.2.2 p), .int (nI C), .int (nI m)] M (jV P) := by
  refine b_X2_rage ⟨fun _ => ?_, fun c => absurd (show (0 : Int32) < nI C from (nI_ltI (a := 0) (by omega) (by omega)).mpr hC0) c⟩
  refine jloop (fun i (M' : jM) => JW x jtbC mX2_rage (d + 2) (jV P) 8 [(0, .ref (x.2.2.2 70)), (1, .ref (x.2.2.2 p)), (2, .int (nI C)), (3, .int (nI m)), (4, .int (nI i))] [] M') (fun i M' => jsame (fun q => q = p ∨ q = 70) M M' ∧ M'.2 = M.2 ∧ (∀ c', c' < 25 → M'.1 p c' = nI (rT (qRage C i s) c')) ∧ (∀ k, k ≠ 2 → k ≠ 5 → M'.1 70 k = M.1 70 k) ∧ M'.1 70 2 = nI (rK (qRage C i s)) ∧ M'.1 70 5 = nI (rD (qRage C i s))) m ?_ ?_ 0 M (Nat.zero_le _) ⟨jsame.rf, rfl, r39, fun _ _ _ => rfl, r2, r5⟩
  · rintro M' ⟨g1, g2, g3, g4, g5, g6⟩
    exact b_X2_rage_8 (pk_le m m (fun _ => h M' g1 g2 g3 g4 g5 g6) (fun c => absurd c (by omega)))
  · rintro i M' hi ⟨g1, g2, g3, g4, g5, g6⟩ ih
    obtain ⟨a1, a2, _⟩ := qRage_all C s t9 hd i
    refine b_X2_rage_8 (pk_le m i (fun c => absurd c (by omega)) (fun _ => ?_))
    rw [g6, jn2861, pk_mul, jn12007, nI_add, jn65536, pk_rem (by omega) (by omega) (by omega)]
    intro M1 e1
    have e5 : M1.1 70 5 = nI (rD (qDrw (qRage C i s))) := by rw [e1, jrI_s, pk_us]; rfl
    have dl : rD (qDrw (qRage C i s)) < 65536 := (show (rD (qRage C i s) * 2861 + 12007) % 65536 < 65536 from Nat.mod_lt _ (by omega))
    rw [e5, jn8, pk_div (by omega) (by omega) (by omega), pk_rem (by omega) hC0 (by omega)]
    have cl : rD (qDrw (qRage C i s)) / 8 % C < C := Nat.mod_lt _ hC0
    refine ⟨nI_ne0 hC0 (by omega), ?_⟩
    refine k_take (s := qDrw (qRage C i s)) (m := 1) so hn h25 hp (by omega) (by omega) (fun c hc => by rw [e1, jrI_n hp]; exact g3 c hc) a1 (by rw [e1, jrI_s, pk_un (by omega)]; exact g5) (fun M2 k1 k2 k3 k4 k5 => ?_)
    rw [nI_1]
    refine ih M2 ⟨?_, ?_, k3, fun k h1 h2 => ?_, k5, ?_⟩
    · rw [e1] at k1; exact (g1.tr (jsame.I (Or.inr rfl))).tr k1
    · rw [k2, e1]; exact g2
    · rw [k4 k h1, e1, jrI_s, pk_un h2]; exact g4 k h1 h2
    · rw [k4 5 (by omega), e5]; rfl
theorem k_compares {P : jM → Bool → Prop} {v n : Nat} {sg : Int32} (hv : v < 2 ^ 31) (hn : n < 2 ^ 31) (h : P M (qCmp v sg n)) : JC x jtbC mX2_compares d [.int (nI v), .int sg, .int (nI n)] M (jZ P) := by
  unfold qCmp at h
  refine b_X2_compares ?_
  rw [nI_leI hn hv, nI_leI hv hn, nI_eq hv hn]
  refine ⟨fun c => ?_, fun c => ⟨fun c2 => ?_, fun c2 => ?_⟩⟩
  · rw [if_pos c] at h
    exact ⟨fun q => by rw [decide_eq_false (by omega)] at h; exact h, fun q => by rw [decide_eq_true (by omega)] at h; exact h⟩
  · rw [if_neg c, if_pos c2] at h
    exact ⟨fun q => by rw [decide_eq_false (by omega)] at h; exact h, fun q => by rw [decide_eq_true (by omega)] at h; exact h⟩
  · rw [if_neg c, if_neg c2] at h
    exact ⟨fun q => by rw [decide_eq_false q] at h; exact h, fun q => by rw [decide_eq_true q] at h; exact h⟩
/-- what a test may be -/
def oTst (pl : qP) (o : qO) (a : Nat) : Prop := (o.2 1 a = 11 ∧ (∃ c, c < qc pl ∧ o.2 2 a = nI c) ∧ oSg (o.2 4 a) ∧ oNm (o.2 5 a) 0 99) ∨ (o.2 1 a = 5 ∧ (∃ v, v < qn pl ∧ o.2 2 a = nI v) ∧ oNm (o.2 3 a) 0 8 ∧ oSg (o.2 4 a) ∧ oNm (o.2 5 a) 0 99) ∨ (o.2 1 a = 13 ∧ ∃ v, v < qn pl ∧ o.2 2 a = nI v) ∨ (o.2 1 a = 14 ∧ oSg (o.2 4 a) ∧ oNm (o.2 5 a) 0 9999)
theorem act_when {a' : Nat} (h : oAct pl o N a') (h1 : o.2 0 a' = 10) : oTst pl o a' := by
  unfold oAct at h
  rcases h with ⟨q, _⟩ | ⟨q, _⟩ | q | ⟨q, _⟩ | ⟨_, _, q⟩ | ⟨q, _⟩
  · rcases q with q | q <;> exact absurd (q.symm.trans h1) (by decide)
  · exact absurd (q.symm.trans h1) (by decide)
  · exact absurd (q.symm.trans h1) (by decide)
  · exact absurd (q.symm.trans h1) (by decide)
  · exact q
  · exact absurd (q.symm.trans h1) (by decide)
theorem act_loop {a' : Nat} (h : oAct pl o N a') (h1 : o.2 0 a' = 15) : oNm (o.2 5 a') 1 99 := by
  unfold oAct at h
  rcases h with ⟨q, _⟩ | ⟨q, _⟩ | q | ⟨_, q, _⟩ | ⟨q, _, _⟩ | ⟨q, _⟩
  · rcases q with q | q <;> exact absurd (q.symm.trans h1) (by decide)
  · exact absurd (q.symm.trans h1) (by decide)
  · exact absurd (q.symm.trans h1) (by decide)
  · exact q
  · exact absurd (q.symm.trans h1) (by decide)
  · exact absurd (q.symm.trans h1) (by decide)
theorem k_isSo {P : jM → Bool → Prop} {a n : Nat} {t : Nat → Nat} (so : js jtbC p = (20, n)) (hn : n < 2 ^ 31) (h25 : 25 ≤ n) (hp38 : p ≠ 38) (hp : cPl M 30 pl) (ha : a < 60) (hr : ∀ r, r < 7 → M.1 (41 + r) a = o.2 r a) (hT : oTst pl o a) (r39 : ∀ c, c < 25 → M.1 p c = nI (t c)) (t9 : ∀ c, t c ≤ 99)
    (h : ∀ M', jsame (fun q => q = 38) M M' → M'.2 = M.2 → P M' (qIsSo pl o a t)) : JC x jtbC mX2_isSo (d + 3) [.ref (x.2.2.2 70), .ref (x.2.2.2 40), .ref (x.2.2.2 30), .ref (x.2.2.2 p), .int (nI a)] M (jZ P) := by
  have w := hp.wf
  have c25 := w.c25
  have h6 := w.2.2.2.1
  have e1 : M.1 42 a = o.2 1 a := hr 1 (by omega)
  have e2 : M.1 43 a = o.2 2 a := hr 2 (by omega)
  have e3 : M.1 44 a = o.2 3 a := hr 3 (by omega)
  have e4 : M.1 45 a = o.2 4 a := hr 4 (by omega)
  have e5 : M.1 46 a = o.2 5 a := hr 5 (by omega)
  have sm : jsame (fun q => q = 38) M M := jsame.rf
  have hP := h M sm rfl
  unfold qIsSo at hP h
  refine b_X2_isSo so hn ⟨a, ha, rfl, ?_⟩
  rw [e1, e2, e3, e4, e5]
  rcases hT with ⟨q, ⟨c, c1, c2⟩, _, ⟨m, _, m2, m3⟩⟩ | ⟨q, ⟨v, c1, c2⟩, ⟨s, _, s2, s3⟩, _, ⟨m, _, m2, m3⟩⟩ | ⟨q, v, c1, c2⟩ | ⟨q, _, ⟨m, _, m2, m3⟩⟩
  · rw [if_neg (by rw [q]; decide), if_pos q, oN_of c2 (by omega), oN_of m3 (by omega)] at hP
    refine ⟨fun c => absurd (c.symm.trans q) (by decide), fun _ => ⟨fun _ => ?_, fun n => absurd q n⟩⟩
    rw [c2, m3]
    refine k_hasCell atC5_30 hp ?_
    rw [qin_nI (by omega), decide_eq_true c1]
    refine ⟨fun u => (by cases u), fun _ => ⟨c, by omega, rfl, ?_⟩⟩
    have := t9 c
    rw [r39 c (by omega)]
    refine k_compares (by omega) (by omega) ?_
    exact ⟨fun u => by rw [u] at hP; exact hP, fun u => by rw [u] at hP; exact hP⟩
  · rw [if_pos q, oN_of c2 (by omega), oN_of s3 (by omega), oN_of m3 (by omega)] at hP
    refine ⟨fun _ => ?_, fun n => absurd q n⟩
    rw [c2, s3, m3]
    refine k_hasStrip atC5_30 hp ?_
    rw [qin_nI (by omega), decide_eq_true c1, Bool.true_and, nI_clamp (by omega), qin_nI (by omega)]
    by_cases u : s < qSt pl v
    · rw [decide_eq_true u, Bool.true_and] at hP
      rw [decide_eq_true u]
      refine ⟨fun c => (by cases c), fun _ => ?_⟩
      rw [e3, s3]
      refine k_sightOf atC5_30 hp so hn (by omega) (fun c hc => r39 c (by omega)) t9 c1 (by omega) ?_
      have := qG_le (w := qw pl) (h := qh pl) (side := qSide pl v) (s := s) t9 (qc pl)
      refine k_compares (by omega) (by omega) ?_
      exact ⟨fun c => by rw [c] at hP; exact hP, fun c => by rw [c] at hP; exact hP⟩
    · rw [decide_eq_false u, Bool.false_and] at hP
      rw [decide_eq_false u]
      exact ⟨fun _ => hP, fun c => (by cases c)⟩
  · rw [if_neg (by rw [q]; decide), if_neg (by rw [q]; decide), if_pos q, oN_of c2 (by omega)] at hP
    refine ⟨fun c => absurd (c.symm.trans q) (by decide), fun _ => ⟨fun c => absurd (c.symm.trans q) (by decide), fun _ => ⟨fun _ => ?_, fun n => absurd q n⟩⟩⟩
    rw [c2]
    refine k_hasVillage atC5_30 hp ?_
    rw [qin_nI (by omega), decide_eq_true c1]
    refine ⟨fun u => (by cases u), fun _ => ?_⟩
    refine k_hasSky atC5_30 hp (by omega) ⟨fun c => ?_, fun c => ?_⟩
    · rw [c, Bool.false_and] at hP; exact hP
    · refine k_firstUnlikeStrip atC5_30 hp so hn (by omega) (fun c hc => r39 c (by omega)) t9 c1 c (fun e => hp38 e.symm) (fun M1 g1 g2 => ?_)
      have hP1 := h M1 g1 g2
      rw [if_neg (by rw [q]; decide), if_neg (by rw [q]; decide), if_pos q, oN_of c2 (by omega), c, Bool.true_and] at hP1
      have h9 := qSt_le w v
      have hle : qUs pl t v ≤ qSt pl v := qFst_le _ _
      by_cases u : qUs pl t v < qSt pl v
      · rw [decide_eq_false (fun n => n u)] at hP1
        rw [if_pos u]
        exact ⟨fun _ => hP1, fun e => absurd e (nI_ne1 (by omega))⟩
      · rw [decide_eq_true u] at hP1
        rw [if_neg u]
        exact ⟨fun n => absurd rfl n, fun _ => hP1⟩
  · rw [if_neg (by rw [q]; decide), if_neg (by rw [q]; decide), if_neg (by rw [q]; decide), oN_of m3 (by omega)] at hP
    refine ⟨fun c => absurd (c.symm.trans q) (by decide), fun _ => ⟨fun c => absurd (c.symm.trans q) (by decide), fun _ => ⟨fun c => absurd (c.symm.trans q) (by decide), fun _ => ?_⟩⟩⟩
    rw [m3]
    refine k_stoneOf atC5_30 hp so hn (by omega) (fun c hc => r39 c (by omega)) t9 ?_
    have := qStone_le w t9 (qc pl)
    have : qc pl * 9801 ≤ 25 * 9801 := Nat.mul_le_mul_right _ c25
    exact k_compares (by omega) (by omega) hP
end CMS
