/-! the model's cheapest town -/
section MCT
variable {pl : qP} {ask : Nat} {want : Nat → Nat → Nat} {cp : Nat → Nat}
theorem best_low {R : Nat → Bool} {k : Nat} (w : qWf pl) (hk : k < qc pl) (hR : qOkR pl ask want cp R) (hT : ∀ R', qOkR pl ask want cp R' → qWg (qc pl) (qStn pl cp) R' = qWg (qc pl) (qStn pl cp) R → qTi (qc pl) R ≤ qTi (qc pl) R') (e : cp k = qLeast pl k) : R k = false := by
  cases u : R k
  · rfl
  · exfalso
    have ok : qOkR pl ask want cp (fun c => if c = k then false else R c) := fun f hf => by
      obtain ⟨c, h1, h2, h3⟩ := hR f hf
      refine ⟨c, h1, h2, ?_⟩
      show (if c = k then false else R c) = true
      rw [if_neg]
      · exact h3
      · intro q
        obtain ⟨v, s, _, _, _, _, nf⟩ := hf
        exact nf ⟨k, by rw [← q]; exact h2, e⟩
    have add := qWg_add (C := qc pl) (wt := qStn pl cp) (R := fun c => if c = k then false else R c) (R' := R) hk (if_pos rfl) u (fun c _ hc => (if_neg hc).symm)
    have z : qStn pl cp k = 0 := by unfold qStn; rw [e, Nat.sub_self, Nat.zero_mul]
    have := hT _ ok (by omega)
    have := qTi_cmp (n := qc pl) (k := k) (R := fun c => if c = k then false else R c) (S := R) w.c25 hk (if_pos rfl) u (fun c hc h => by
      have h' : (if c = k then false else R c) = true := h
      rw [if_neg (by omega)] at h'; exact h')
    omega
end MCT
section MCU
variable {x : jX} {d : Nat} {M : jM} {z : qZ}
theorem n_cheapest {P : jM → Int32 → Prop} {a : Int32} (h : mI M z) (hP : ∀ M', mI M' (sCheapest z a).1 → P M' (sCheapest z a).2) : JC x jtbM mX12_cheapest (d + 29) [.ref (x.2.2.2 0), .int a] M (jI P) := by
  unfold sCheapest at hP
  have w := h.pl.wf
  have h25 := w.c25
  refine b_X12_cheapest (d := d + 28) ?_
  rintro M1 rfl M2 rfl
  have h2 := (h.th 0).st 0
  generalize jrI (jrI M 0 (upd (M.1 0) 1 0)) 0 (upd ((jrI M 0 (upd (M.1 0) 1 0)).1 0) 0 0) = M2 at h2 ⊢
  refine k_mIsSet h2.pl ⟨fun c => ?_, fun c => ?_⟩
  · rw [if_pos (show qin a (2 ^ qn (zP z)) = true from c)] at hP
    obtain ⟨k, hk, rfl, e2⟩ := qin_0 c (pow31 h2.pl.wf)
    rw [e2] at hP
    refine k_mKeep (d := d + 26) (set64 h2.pl.wf hk) h2 (fun M5 h5 g3 g4 _ => ⟨fun q => ?_, fun q => ?_⟩)
    · rw [show pCan (zP z) k = true from q] at hP
      rw [if_pos rfl] at hP
      have g3' : mSi M5 (zP z) (pAsk (zP z) k) (qLine (zP z)) := g3
      have g4' : mCp M5 (zP z) (pCp (zP z) k) := g4
      obtain ⟨l1, nz⟩ := pCan_nz w (show pCan (zP z) k = true from q)
      refine m_cheapestCost (pl := zP z) h5.pl g3' g4' l1 nz (fun M6 a1 a2 a3 S6 => ?_)
      have h6 := h5.cov a1 a2 a3
      have c6 : mCp M6 (zP z) (pCp (zP z) k) := by unfold mCp; rw [(a1 9 (by omega)).1]; exact g4'
      refine k_mAll (pl := zP z) h6.pl ?_
      obtain ⟨R, r1, r2, r3, r4, r5, r6⟩ := qCW_spec w g4'.2 nz
      unfold pTw at hP
      rw [show qCW (zP z) (pAsk (zP z) k) (qLine (zP z)) (pCp (zP z) k) = pW (zP z) k from rfl] at *
      have tw : ∀ c, c < qc (zP z) → qChT (zP z) (pCp (zP z) k) (pW (zP z) k) c = if R c then pCp (zP z) k c else qLeast (zP z) c := fun c hc => by unfold qChT; rw [r2 c hc]
      have t9 : ∀ c, qChT (zP z) (pCp (zP z) k) (pW (zP z) k) c ≤ 99 := fun c => qChT_le w g4'.2 _ c
      have b45 : pW (zP z) k / 2 ^ 25 < 2 ^ 20 := (Nat.div_lt_iff_lt_mul (by decide)).mpr r6
      generalize pW (zP z) k = W at *
      have mVR : ∀ al R', mV (qc (zP z)) (mVl (zP z) (pAsk (zP z) k) (qLine (zP z)) (pCp (zP z) k) (qn (zP z))) al R' ↔ (∀ c, c < qc (zP z) → R' c = true → al.testBit c = true) ∧ qOkR (zP z) (pAsk (zP z) k) (qLine (zP z)) (pCp (zP z) k) R' := fun al R' =>
        ⟨fun u => ⟨u.1, fun f hf => u.2 f (mVl_fam.mpr hf)⟩, fun u => ⟨u.1, fun f hf => u.2 f (mVl_fam.mp hf)⟩⟩
      refine jloop2 (fun i (M7 : jM) (al : Nat) => JW x jtbM mX12_cheapest (d + 29) (jI P) 56 [(0, .ref (x.2.2.2 0)), (2, .int (nI (W / 2 ^ 25))), (3, .int (nI al)), (4, .int (nI i))] [] M7)
        (fun i M7 al => mI M7 (uTn (uSt z 0) (tcpy (qChT (zP z) (pCp (zP z) k) W) (zT z) i)) ∧ mS (qc (zP z)) (mVl (zP z) (pAsk (zP z) k) (qLine (zP z)) (pCp (zP z) k) (qn (zP z))) (qStn (zP z) (pCp (zP z) k)) (zP z) M7 ∧ mCp M7 (zP z) (pCp (zP z) k) ∧ al < 2 ^ qc (zP z) ∧ ∀ c, al.testBit c = (decide (c < qc (zP z)) && (decide (i ≤ c) || R c))) (qc (zP z)) ?_ ?_ 0 M6 (2 ^ qc (zP z) - 1) (Nat.zero_le _) ⟨?_, S6, c6, all_lt _, fun c => ?_⟩
      · rintro M7 al ⟨i1, i2, i3, i4, i5⟩
        exact b_X12_cheapest_56 (k_mCells i2.1 (pk_le (qc (zP z)) (qc (zP z)) (fun _ => hP M7 i1) (fun c => absurd c (by omega))))
      · rintro i M7 al hi ⟨i1, i2, i3, i4, i5⟩ ih
        have al31 : al < 2 ^ 31 := Nat.lt_of_lt_of_le i4 (Nat.pow_le_pow_right (by decide) (by omega))
        have b1 := i3.2 i
        have b2 := w.2.2.2.2.2.2.2.1 i
        have cb := clr_bit (c := i) al31
        have lC : al &&& (2 ^ i ^^^ (2 ^ 32 - 1)) < 2 ^ qc (zP z) := Nat.lt_of_le_of_lt Nat.and_le_left i4
        refine b_X12_cheapest_56 (k_mCells i2.1 (pk_le (qc (zP z)) i (fun c => absurd c (by omega)) (fun _ => ⟨i, by omega, rfl, 28 + i, by omega, by rw [jn28, nI_add], ?_⟩)))
        rw [i2.1.least (by omega), i3.1 i hi, nI_eq (by omega) (by omega), nI_clr (by omega)]
        generalize al &&& (2 ^ i ^^^ (2 ^ 32 - 1)) = al' at cb lC ⊢
        -- what is written, and what follows
        have put : ∀ (M8 : jM) (v : Nat), v = qChT (zP z) (pCp (zP z) k) W i → mI M8 (uTn (uSt z 0) (tcpy (qChT (zP z) (pCp (zP z) k) W) (zT z) i)) → mS (qc (zP z)) (mVl (zP z) (pAsk (zP z) k) (qLine (zP z)) (pCp (zP z) k) (qn (zP z))) (qStn (zP z) (pCp (zP z) k)) (zP z) M8 → mCp M8 (zP z) (pCp (zP z) k) → ∀ al'', al'' < 2 ^ qc (zP z) → (∀ c, al''.testBit c = (decide (c < qc (zP z)) && (decide (i + 1 ≤ c) || R c))) → ∀ M9, M9 = jrI M8 5 (upd (M8.1 5) (144 + i) (nI v)) → JW x jtbM mX12_cheapest (d + 29) (jI P) 56 [(0, .ref (x.2.2.2 0)), (2, .int (nI (W / 2 ^ 25))), (3, .int (nI al'')), (4, .int (nI i + 1))] [] M9 := fun M8 v hv j1 j2 j3 al'' ja jb' M9 e9 => by
          rw [nI_1]
          have k5 : ∀ c, c ≠ 144 + i → M9.1 5 c = M8.1 5 c := fun c hc => by rw [e9, jrI_s, pk_un hc]
          have kq : ∀ q, q ≠ 5 → M9.1 q = M8.1 q := fun q hq => by rw [e9, jrI_n hq]
          have k9 : ∀ c, tcpy (qChT (zP z) (pCp (zP z) k) W) (zT z) (i + 1) c ≤ 99 := tcpy_le t9 h5.tn.2
          have pl9 : mPl (M9.1 5) (zP z) := j2.1.keep (fun c hc => k5 c (by omega))
          refine ih M9 al'' ⟨?_, ⟨pl9, rfl, ?_, fun c hc => by rw [kq 10 (by omega)]; exact j2.2.2.2.1 c hc, j2.2.2.2.2.1, j2.2.2.2.2.2⟩, by unfold mCp; rw [kq 9 (by omega)]; exact j3, ja, jb'⟩
          · have := mI.setTn (z := uTn (uSt z 0) (tcpy (qChT (zP z) (pCp (zP z) k) W) (zT z) i)) (f := tcpy (qChT (zP z) (pCp (zP z) k) W) (zT z) (i + 1)) j1 kq (by rw [e9]; rfl) (fun c hc => k5 c (by omega)) (fun c hc => ?_) k9
            · exact this
            · by_cases q : c = i
              · rw [q, e9, jrI_s, pk_us, hv]
                unfold tcpy
                rw [if_pos (Nat.lt_succ_self i)]
              · rw [k5 _ (by omega)]
                have := j1.tn.1 c hc
                refine this.trans ?_
                show nI (tcpy _ _ i c) = nI (tcpy _ _ (i + 1) c)
                unfold tcpy
                by_cases u : c < i
                · rw [if_pos u, if_pos (by omega)]
                · rw [if_neg u, if_neg (by omega)]
          · obtain ⟨s1, s2, s3⟩ := j2.2.2.1
            exact ⟨by rw [kq 0 (by omega)]; exact s1, s2, fun c f hc => by rw [kq 11 (by omega)]; exact s3 c f hc⟩
        have low : R i = false → ∀ M8, mI M8 (uTn (uSt z 0) (tcpy (qChT (zP z) (pCp (zP z) k) W) (zT z) i)) → mS (qc (zP z)) (mVl (zP z) (pAsk (zP z) k) (qLine (zP z)) (pCp (zP z) k) (qn (zP z))) (qStn (zP z) (pCp (zP z) k)) (zP z) M8 → mCp M8 (zP z) (pCp (zP z) k) → JW x jtbM mX12_cheapest (d + 29) (jI P) 120 [(0, .ref (x.2.2.2 0)), (2, .int (nI (W / 2 ^ 25))), (3, .int (nI al')), (4, .int (nI i)), (6, .int (1 : Int32))] [] M8 := fun rf M8 j1 j2 j3 => by
          refine b_X12_cheapest_120 ⟨fun u => absurd u (by decide), fun _ => ⟨28 + i, by omega, by rw [jn28, nI_add], 144 + i, by omega, by rw [jn144, nI_add], ?_⟩⟩
          rw [j2.1.least (by omega)]
          refine put M8 _ (by rw [tw i hi, rf]; rfl) j1 j2 j3 al' lC (fun c => ?_)
          rw [cb, i5]
          by_cases q : c = i
          · rw [q, rf, decide_eq_true rfl, decide_eq_false (show ¬ i + 1 ≤ i by omega)]; simp
          · rw [decide_eq_false q, show decide (i + 1 ≤ c) = decide (i ≤ c) from decide_eq_decide.mpr (by omega)]; simp
        refine ⟨fun eq => ⟨fun u => absurd u (by decide), fun _ => low (best_low w hi r1 r5 eq) M7 i1 i2 i3⟩, fun ne => ?_⟩
        refine m_leastCover (d := d + 1) i2 lC (fun M8 r f1 f2 f3 f4 f5 => ?_)
        have h8 : mI M8 (uTn (uSt z 0) (tcpy (qChT (zP z) (pCp (zP z) k) W) (zT z) i)) := i1.cov (f1.mono (fun q hq => Or.inl hq)) f2 (fun k _ h2 => f3 k h2)
        have S8 := i2.keep f1 f3
        have c8 : mCp M8 (zP z) (pCp (zP z) k) := by unfold mCp; rw [(f1 9 (by omega)).1]; exact i3
        have iff : r = nI (W / 2 ^ 25) ↔ R i = false := by
          constructor
          · intro er
            cases u : R i
            · rfl
            · exfalso
              by_cases ex : ∃ R', mV (qc (zP z)) (mVl (zP z) (pAsk (zP z) k) (qLine (zP z)) (pCp (zP z) k) (qn (zP z))) al' R'
              · obtain ⟨⟨R', v1, v2⟩, v3⟩ := qLW_spec (C := qc (zP z)) (wt := qStn (zP z) (pCp (zP z) k)) ex
                have er' := f4 ex
                have lb : qLW (qc (zP z)) (qStn (zP z) (pCp (zP z) k)) (mV (qc (zP z)) (mVl (zP z) (pAsk (zP z) k) (qLine (zP z)) (pCp (zP z) k) (qn (zP z))) al') < 2 ^ 31 := by
                  rw [← v2]
                  have := qWg_bd (C := qc (zP z)) (wt := qStn (zP z) (pCp (zP z) k)) (B := 9801) (fun c _ => qStn_le w g4'.2 c) R'
                  have : qc (zP z) * 9801 ≤ 25 * 9801 := Nat.mul_le_mul_right _ h25
                  omega
                rw [er] at er'
                have ee := (nI_eq (by omega) lb).mp er'
                obtain ⟨w1, w2⟩ := (mVR al' R').mp v1
                have := r5 R' w2 (by rw [v2, ← ee, r3])
                have ri : R' i = false := by
                  cases t : R' i
                  · rfl
                  · have := w1 i hi t
                    rw [cb, decide_eq_true rfl] at this
                    simp at this
                have := qTi_cmp (n := qc (zP z)) (k := i) (R := R') (S := R) h25 hi ri u (fun c hc hh => by
                  have := w1 c (by omega) hh
                  rw [cb, i5, decide_eq_false (show ¬ i ≤ c by omega)] at this
                  revert this
                  cases R c <;> simp)
                omega
              · have := f5 ex
                rw [er] at this
                exact nI_ne1 (by omega) this
          · intro u
            have mem : mV (qc (zP z)) (mVl (zP z) (pAsk (zP z) k) (qLine (zP z)) (pCp (zP z) k) (qn (zP z))) al' R := (mVR al' R).mpr ⟨fun c hc hh => by
              have ci : c ≠ i := fun q => by rw [q, u] at hh; cases hh
              rw [cb, i5, decide_eq_true hc, hh, decide_eq_false ci]; simp, r1⟩
            rw [f4 ⟨R, mem⟩, qLW_eq mem (fun R' hR' => r4 R' ((mVR al' R').mp hR').2), r3]
        refine ⟨fun nr => ⟨fun _ => ?_, fun u => absurd rfl u⟩, fun er => ⟨fun u => absurd u (by decide), fun _ => low (iff.mp er) M8 h8 S8 c8⟩⟩
        have ri : R i = true := by
          cases u : R i
          · exact absurd (iff.mpr u) nr
          · rfl
        refine b_X12_cheapest_120 ⟨fun _ => ⟨i, by omega, rfl, 144 + i, by omega, by rw [jn144, nI_add], ?_⟩, fun u => absurd rfl u⟩
        rw [c8.1 i hi]
        refine put M8 _ (by rw [tw i hi, ri]; rfl) h8 S8 c8 al i4 (fun c => ?_)
        rw [i5]
        by_cases q : c = i
        · rw [q, ri, Bool.or_true, Bool.or_true]
        · rw [show decide (i + 1 ≤ c) = decide (i ≤ c) from decide_eq_decide.mpr (by omega)]
      · have : tcpy (qChT (zP z) (pCp (zP z) k) W) (zT z) 0 = zT z := funext fun c => if_neg (Nat.not_lt_zero _)
        rw [this]
        exact h6
      · rw [Nat.testBit_two_pow_sub_one, decide_eq_true (Nat.zero_le c)]; simp
    · rw [show pCan (zP z) k = false from q] at hP; exact m_refuse h5 hP
  · rw [show qin a (2 ^ qn (zP z)) = false from c] at hP; exact m_refuse h2 hP
end MCU
