/-! the class gathers its needs -/
section GAT
variable {x : jX} {d : Nat} {M : jM} {pl : qP} {ask : Nat} {want : Nat → Nat → Nat} {cp : Nat → Nat}
theorem nI_or0 (n : Nat) : nI n ||| (0 : Int32) = nI n := by
  rw [show (0 : Int32) = nI 0 from rfl, fa_or, Nat.or_zero]
theorem k_gatherOf {P : jM → Prop} {v : Nat} {L : List (Nat × Nat)} (hp : cPl M 30 pl) (hs : cSi M pl ask want) (hc : cCp M pl cp) (hv : v < qn pl) (ha : ask.testBit v = true) (hr : rq M L) (hL : ∀ p, p ∈ L → p.1 < 2 ^ qc pl) (hl : L.length + qSt pl v ≤ 54) (h : ∀ M', jsame (fun q => q = 53 ∨ q = 55 ∨ q = 56 ∨ q = 57) M M' → M'.2 = M.2 → (∀ k, k ≠ 3 → M'.1 55 k = M.1 55 k) → rq M' (gSt pl want cp v L (qSt pl v)) → P M') : JC x jtbC mX8_gatherNeedsOf (d + 2) [.ref (x.2.2.2 49), .ref (x.2.2.2 30), .int (nI v), .int (nI (qLm pl cp (qc pl)))] M (jV P) := by
  have w := hp.wf
  have h25 := w.c25
  have h6 := w.2.2.2.1
  have h9 := qSt_le w v
  have p25 : ∀ n, n < 2 ^ qc pl → n < 2 ^ 25 := fun n hn => Nat.lt_of_lt_of_le hn (Nat.pow_le_pow_right (by decide) h25)
  have p31 : ∀ n, n < 2 ^ qc pl → n < 2 ^ 31 := fun n hn => Nat.lt_trans (p25 n hn) (by decide)
  have lm := qLm_lt (pl := pl) (cp := cp) (qc pl)
  refine b_X8_gatherNeedsOf (d := d + 1) (k_fillI sC_53 (by decide) (fun M1 a1 a2 a3 => ?_))
  refine jloop (fun i (M2 : jM) => JW x jtbC mX8_gatherNeedsOf (d + 2) (jV P) 11 [(0, .ref (x.2.2.2 49)), (1, .ref (x.2.2.2 30)), (2, .int (nI v)), (3, .int (nI (qLm pl cp (qc pl)))), (4, .int (nI i))] [] M2) (fun i M2 => jsame (fun q => q = 53) M M2 ∧ M2.2 = M.2 ∧ ∀ s, s < 9 → M2.1 53 s = nI (qAb pl want cp v s i)) (qc pl) ?_ ?_ 0 M1 (Nat.zero_le _) ⟨a1, a2, fun s hs9 => a3 s hs9⟩
  · rintro M2 ⟨g1, g2, g3⟩
    have hp2 : cPl M2 30 pl := hp.keep (fun q q1 q2 => (g1 q (by omega)).1) (by rw [g2])
    refine b_X8_gatherNeedsOf_11 ?_
    rw [hp2.c]
    refine pk_le (qc pl) (qc pl) (fun _ => ?_) (fun c => absurd c (by omega))
    refine jloop (fun i (M3 : jM) => JW x jtbC mX8_gatherNeedsOf (d + 2) (jV P) 83 [(0, .ref (x.2.2.2 49)), (1, .ref (x.2.2.2 30)), (2, .int (nI v)), (3, .int (nI (qLm pl cp (qc pl)))), (4, .int (nI i))] [] M3) (fun i M3 => jsame (fun q => q = 55 ∨ q = 56 ∨ q = 57) M2 M3 ∧ M3.2 = M2.2 ∧ (∀ k, k ≠ 3 → M3.1 55 k = M2.1 55 k) ∧ rq M3 (gSt pl want cp v L i) ∧ ∀ p, p ∈ gSt pl want cp v L i → p.1 < 2 ^ qc pl) (qSt pl v) ?_ ?_ 0 M2 (Nat.zero_le _) ⟨jsame.rf, rfl, fun _ _ => rfl, ?_, hL⟩
    · rintro M3 ⟨f1, f2, f3, f4, f5⟩
      have hp3 : cPl M3 30 pl := hp2.keep (fun q q1 q2 => (f1 q (by omega)).1) (by rw [f2])
      refine b_X8_gatherNeedsOf_83 (k_stripsOf atC5_30 hp3 hv (pk_le (qSt pl v) (qSt pl v) (fun _ => ?_) (fun c => absurd c (by omega))))
      refine h M3 (fun q hq => ?_) (f2.trans g2) (fun k hk => by rw [f3 k hk, (g1 55 (by omega)).1]) f4
      have u1 := f1 q (by omega)
      have u2 := g1 q (by omega)
      exact ⟨u1.1.trans u2.1, u1.2.trans u2.2⟩
    · rintro i M3 hi ⟨f1, f2, f3, f4, f5⟩ ih
      have hp3 : cPl M3 30 pl := hp2.keep (fun q q1 q2 => (f1 q (by omega)).1) (by rw [f2])
      have ab := qAb_lt (pl := pl) (want := want) (cp := cp) (v := v) (s := i) (qc pl)
      have r3 : M3.1 53 i = nI (qAb pl want cp v i (qc pl)) := by rw [(f1 53 (by omega)).1]; exact g3 i (by omega)
      refine b_X8_gatherNeedsOf_83 (k_stripsOf atC5_30 hp3 hv (pk_le (qSt pl v) i (fun c => absurd c (by omega)) (fun _ => ⟨i, by omega, rfl, ?_⟩)))
      rw [r3, fa_and, nI_eq0 (Nat.lt_of_le_of_lt Nat.and_le_left (p31 _ ab)), qFree_iff ab, nI_1]
      refine ⟨fun c => ih M3 ?_, fun c => ⟨v, by omega, rfl, ?_⟩⟩
      · have e : gSt pl want cp v L (i + 1) = gSt pl want cp v L i := by
          rw [gSt, if_pos (qFreeB_t.mpr (Classical.not_not.mp c))]
        rw [e]
        exact ⟨f1, f2, f3, f4, f5⟩
      · have e : gSt pl want cp v L (i + 1) = qReq (gSt pl want cp v L i) (qAb pl want cp v i (qc pl)) (qSide pl v % 4) := by
          rw [gSt, if_neg (fun q => c (qFreeB_t.mp q))]
        have sd := w.2.2.2.2.2.2.2.2.2.1 v
        have e35 : M3.1 35 v = nI (qSide pl v) := hp3.side hv
        rw [e35, show (4 : Int32) = nI 4 from rfl, pk_rem (by omega) (by decide) (by decide)]
        have gl := gSt_len (pl := pl) (want := want) (cp := cp) (v := v) (L := L) i
        refine k_require f4 (by omega) (fun p hp => p25 _ (f5 p hp)) (p25 _ ab) (fun M4 t1 t2 t3 t4 => ih M4 ?_)
        rw [e]
        refine ⟨f1.tr t1, t2.trans f2, fun k hk => (t3 k hk).trans (f3 k hk), t4, fun p hp => ?_⟩
        rcases qReq_mem hp with q | q
        · exact f5 p q
        · rw [q]; exact ab
    · obtain ⟨s1, s2, s3⟩ := hr
      exact ⟨by rw [(g1 55 (by omega)).1]; exact s1, s2, fun k p hk => by rw [(g1 56 (by omega)).1, (g1 57 (by omega)).1]; exact s3 k p hk⟩
  · rintro i M2 hi ⟨g1, g2, g3⟩ ih
    have hp2 : cPl M2 30 pl := hp.keep (fun q q1 q2 => (g1 q (by omega)).1) (by rw [g2])
    have sd := w.2.2.2.2.2.2.2.2.2.1 v
    have hF := qF_lt (w := qw pl) (h := qh pl) sd hi
    have h9' : qS (qw pl) (qh pl) (qSide pl v) ≤ 9 := h9
    have e35 : M2.1 35 v = nI (qSide pl v) := hp2.side hv
    refine b_X8_gatherNeedsOf_11 ?_
    rw [hp2.c]
    refine pk_le (qc pl) i (fun c => absurd c (by omega)) (fun _ => ⟨v, by omega, rfl, ?_⟩)
    rw [e35]
    refine k_stripAt atC5_30 hp2 sd hi ⟨qF (qw pl) (qh pl) (qSide pl v) i, by omega, rfl, i, by omega, rfl, v * 9 + qF (qw pl) (qh pl) (qSide pl v) i, by omega, by rw [jn9, pk_mul, nI_add], ?_⟩
    have q1 := hc.2 i
    have q2 := hs.2.2.1 v (qF (qw pl) (qh pl) (qSide pl v) i)
    rw [(g1 50 (by omega)).1, (g1 52 (by omega)).1, hc.1 i hi, hs.2.2.2 v _ hv ha hF, nI_eq (by omega) (by omega), g3 _ (by omega), nI_or0, nI_set (by omega), nI_1]
    have st : ∀ s, qAb pl want cp v s (i + 1) = if qFv pl v i = s ∧ cp i = want v s then qAb pl want cp v s i ||| 2 ^ i else qAb pl want cp v s i := fun s => rfl
    refine ⟨fun c M3 e3 => ih M3 ⟨?_, by rw [e3]; exact g2, fun s hs9 => ?_⟩, fun c M3 e3 => ih M3 ⟨?_, by rw [e3]; exact g2, fun s hs9 => ?_⟩⟩
    · rw [e3]; exact g1.tr (jsame.I rfl)
    · rw [e3, jrI_s, st]
      by_cases q : s = qF (qw pl) (qh pl) (qSide pl v) i
      · rw [q, pk_us, if_neg (fun u => c u.2)]
      · rw [pk_un q, if_neg (fun u => q u.1.symm)]; exact g3 s hs9
    · rw [e3]; exact g1.tr (jsame.I rfl)
    · rw [e3, jrI_s, st]
      by_cases q : s = qF (qw pl) (qh pl) (qSide pl v) i
      · rw [q, pk_us, if_pos ⟨rfl, c⟩]
      · rw [pk_un q, if_neg (fun u => q u.1.symm)]; exact g3 s hs9
theorem k_gather {P : jM → Prop} (hp : cPl M 30 pl) (hs : cSi M pl ask want) (hc : cCp M pl cp) (h : ∀ M', jsame (fun q => q = 53 ∨ q = 55 ∨ q = 56 ∨ q = 57) M M' → M'.2 = M.2 → M'.1 55 0 = nI (gF pl ask want cp) → rq M' (gL pl ask want cp) → P M') : JC x jtbC mX8_gatherNeeds (d + 3) [.ref (x.2.2.2 49), .ref (x.2.2.2 30)] M (jV P) := by
  have w := hp.wf
  have h25 := w.c25
  have h6 := w.2.2.2.1
  have p25 : ∀ n, n < 2 ^ qc pl → n < 2 ^ 25 := fun n hn => Nat.lt_of_lt_of_le hn (Nat.pow_le_pow_right (by decide) h25)
  refine b_X8_gatherNeeds (d := d + 2) (b_X1_begin ?_)
  intro M1 e1 M2 e2
  have s2 : jsame (fun q => q = 55) M M2 := by rw [e2, e1]; exact (jsame.I (S := fun q => q = 55) rfl).tr (jsame.I (S := fun q => q = 55) rfl)
  have v2 : M2.2 = M.2 := by rw [e2, e1]; rfl
  have x0 : M2.1 55 0 = 0 := by rw [e2, jrI_s, pk_us]
  have x3 : M2.1 55 3 = nI 0 := by rw [e2, jrI_s, pk_un (by omega), e1, jrI_s, pk_us]; rfl
  have hp2 : cPl M2 30 pl := hp.keep (fun q q1 q2 => (s2 q (by omega)).1) (by rw [v2])
  refine jloop (fun i (l : Int32) => JW x jtbC mX8_gatherNeeds (d + 3) (jV P) 11 [(0, .ref (x.2.2.2 49)), (1, .ref (x.2.2.2 30)), (2, .int l), (3, .int (nI i))] [] M2) (fun i l => l = nI (qLm pl cp i)) (qc pl) ?_ ?_ 0 0 (Nat.zero_le _) rfl
  · rintro _ rfl
    refine b_X8_gatherNeeds_11 ?_
    rw [hp2.c]
    refine pk_le (qc pl) (qc pl) (fun _ => ?_) (fun c => absurd c (by omega))
    refine jloop (fun i (M3 : jM) => JW x jtbC mX8_gatherNeeds (d + 3) (jV P) 52 [(0, .ref (x.2.2.2 49)), (1, .ref (x.2.2.2 30)), (2, .int (nI (qLm pl cp (qc pl)))), (3, .int (nI i))] [] M3) (fun i M3 => jsame (fun q => q = 53 ∨ q = 55 ∨ q = 56 ∨ q = 57) M M3 ∧ M3.2 = M.2 ∧ M3.1 55 0 = 0 ∧ rq M3 (gVl pl ask want cp i)) (qn pl) ?_ ?_ 0 M2 (Nat.zero_le _) ⟨s2.mono (fun q hq => Or.inr (Or.inl hq)), v2, x0, x3, Nat.zero_le _, fun k p hk => (by simp [gVl] at hk)⟩
    · rintro M3 ⟨f1, f2, f3, f4⟩
      refine b_X8_gatherNeeds_52 ?_
      rw [(f1 30 (by omega)).1, hp.n]
      refine pk_le (qn pl) (qn pl) (fun _ => ?_) (fun c => absurd c (by omega))
      refine k_findForced (d := d + 1) f4 f3 (fun p hp => p25 _ (gI_lt (gVl_I (qn pl)) hp)) (fun M4 t1 t2 t3 t4 => ?_)
      exact h M4 (f1.tr (t1.mono (fun q hq => by omega))) (t2.trans f2) t3 t4
    · rintro i M3 hi ⟨f1, f2, f3, f4⟩ ih
      have hp3 : cPl M3 30 pl := hp.keep (fun q q1 q2 => (f1 q (by omega)).1) (by rw [f2])
      have hs3 : cSi M3 pl ask want := ⟨by rw [(f1 49 (by omega)).1]; exact hs.1, hs.2.1, hs.2.2.1, fun v s a b c => by rw [(f1 52 (by omega)).1]; exact hs.2.2.2 v s a b c⟩
      have hc3 : cCp M3 pl cp := ⟨fun c hcc => by rw [(f1 50 (by omega)).1]; exact hc.1 c hcc, hc.2⟩
      refine b_X8_gatherNeeds_52 ?_
      rw [hp3.n, nI_1]
      refine pk_le (qn pl) i (fun c => absurd c (by omega)) (fun _ => k_isWatching hs3.1 hs3.2.1 (by omega) ⟨fun c => ?_, fun c => ?_⟩)
      · refine ih M3 ⟨f1, f2, f3, ?_⟩
        rw [gVl, if_neg (by rw [c]; decide)]
        exact f4
      · have gl := gVl_len w (ask := ask) (want := want) (cp := cp) i
        have h9 := qSt_le w i
        refine k_gatherOf hp3 hs3 hc3 hi c f4 (fun p hp => gI_lt (gVl_I i) hp) (by omega) (fun M4 t1 t2 t3 t4 => ih M4 ⟨f1.tr t1, t2.trans f2, by rw [t3 0 (by omega)]; exact f3, ?_⟩)
        rw [gVl, if_pos c]
        exact t4
  · rintro i _ hi rfl ih
    refine b_X8_gatherNeeds_11 ?_
    rw [hp2.c]
    refine pk_le (qc pl) i (fun c => absurd c (by omega)) (fun _ => ⟨i, by omega, rfl, ?_⟩)
    have e32 : M2.1 32 i = nI (qLeast pl i) := hp2.least (by omega)
    have q1 := hc.2 i
    have q2 := w.2.2.2.2.2.2.2.1 i
    rw [e32, (s2 50 (by omega)).1, hc.1 i hi, nI_eq (by omega) (by omega), nI_or0, nI_set (by omega), nI_1]
    refine ⟨fun c => ih _ ?_, fun c => ih _ ?_⟩
    · rw [qLm, if_neg c]
    · rw [qLm, if_pos c]
end GAT
