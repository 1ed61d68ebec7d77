/-! the cheapest town, by weights whose lower bits tell the cells -/
theorem lN_shl {a k : Nat} {y : Int64} (hy : (y.toBitVec.smod 64).toNat = k) : lN a <<< y = lN (a * 2 ^ k) := by
  apply Int64.toBitVec_inj.mp
  apply BitVec.eq_of_toNat_eq
  show ((lN a).toBitVec <<< (y.toBitVec.smod 64).toNat).toNat = _
  rw [hy, BitVec.toNat_shiftLeft, Nat.shiftLeft_eq]
  show a % 2 ^ 64 * 2 ^ k % 2 ^ 64 = (a * 2 ^ k) % 2 ^ 64
  rw [Nat.mod_mul_mod]
theorem lN_shr {a k : Nat} {y : Int64} (hy : (y.toBitVec.smod 64).toNat = k) (h : a < 2 ^ 62) : lN a >>> y = lN (a / 2 ^ k) := by
  have hd : a / 2 ^ k ≤ a := Nat.div_le_self _ _
  apply Int64.toInt_inj.mp
  have e : (lN a >>> y).toInt = (lN a).toInt >>> k := by
    rw [← hy]
    exact BitVec.toInt_sshiftRight ..
  rw [e, Int.shiftRight_eq_div_pow, pk_lT (by omega), pk_lT (by omega)]
  rfl
theorem sh24 : ∀ c, c < 25 → ((((24 : Int32) - nI c).toInt64 &&& 63).toBitVec.smod 64).toNat = 24 - c := by decide +kernel
theorem one24 : ∀ c, c < 25 → (1 : Int64) <<< (((24 : Int32) - nI c).toInt64 &&& 63) = lN (2 ^ (24 - c)) := by decide +kernel
theorem lN_bit {W c : Nat} (hW : W < 2 ^ 62) (hc : c < 25) : (lN W >>> (((24 : Int32) - nI c).toInt64 &&& 63)) &&& (1 : Int64) = (1 : Int64) ↔ W.testBit (24 - c) = true := by
  rw [lN_shr (sh24 c hc) hW, show (1 : Int64) = lN 1 from rfl, fb_andL, fb_lN_inj (Nat.lt_of_le_of_lt Nat.and_le_right (by decide)) (by decide), Nat.and_one_is_mod, Nat.testBit_eq_decide_div_mod_eq, decide_eq_true_iff]
def qTi (n : Nat) (R : Nat → Bool) : Nat := qWg n (fun c => 2 ^ (24 - c)) R
theorem qTi_bit (R : Nat → Bool) : ∀ n, n ≤ 25 → (∃ m, qTi n R = 2 ^ (25 - n) * m) ∧ ∀ j, (qTi n R).testBit j = (decide (25 - n ≤ j ∧ j < 25) && R (24 - j))
  | 0, _ => ⟨⟨0, rfl⟩, fun j => by
    show Nat.testBit 0 j = _
    rw [Nat.zero_testBit, decide_eq_false (by omega)]; rfl⟩
  | n + 1, h => by
    obtain ⟨⟨m, hm⟩, ih⟩ := qTi_bit R n (by omega)
    have st : qTi (n + 1) R = qTi n R + (if R n then 2 ^ (24 - n) else 0) := rfl
    have p : 2 ^ (25 - n) = 2 ^ (25 - (n + 1)) * 2 := by
      rw [← Nat.pow_succ]; congr 1; omega
    have e24 : 25 - (n + 1) = 24 - n := by omega
    cases e : R n
    · rw [e] at st
      have st' : qTi (n + 1) R = qTi n R := st
      rw [st']
      refine ⟨⟨2 * m, by rw [hm, p, Nat.mul_assoc]⟩, fun j => ?_⟩
      rw [ih j]
      by_cases q : j = 24 - n
      · rw [q, show 24 - (24 - n) = n by omega, e, Bool.and_false, Bool.and_false]
      · congr 1
        exact decide_eq_decide.mpr (by omega)
    · rw [e] at st
      have st' : qTi (n + 1) R = qTi n R + 2 ^ (24 - n) := st
      have lt : 2 ^ (24 - n) < 2 ^ (25 - n) := Nat.pow_lt_pow_right (by decide) (by omega)
      refine ⟨⟨2 * m + 1, by rw [st', hm, p, e24]; rw [Nat.mul_add, Nat.mul_assoc, Nat.mul_one]⟩, fun j => ?_⟩
      rw [st', hm, Nat.two_pow_add_eq_or_of_lt lt, ← hm, Nat.testBit_or, ih j, Nat.testBit_two_pow]
      by_cases q : 24 - n = j
      · rw [← q, show 24 - (24 - n) = n by omega, e, decide_eq_true rfl, decide_eq_true (show 25 - (n + 1) ≤ 24 - n ∧ 24 - n < 25 by omega)]
        simp
      · rw [decide_eq_false q, Bool.or_false]
        congr 1
        exact decide_eq_decide.mpr (by omega)
theorem qTi_lt {n : Nat} (h : n ≤ 25) (R : Nat → Bool) : qTi n R < 2 ^ 25 := by
  apply Nat.lt_pow_two_of_testBit
  intro i hi
  rw [(qTi_bit R n h).2, decide_eq_false (by omega)]; rfl
theorem qTi_at {n c : Nat} (h : n ≤ 25) (hc : c < n) (R : Nat → Bool) : (qTi n R).testBit (24 - c) = R c := by
  rw [(qTi_bit R n h).2, decide_eq_true (by omega), show 24 - (24 - c) = c by omega]; rfl
def qStn (pl : qP) (cp : Nat → Nat) (c : Nat) : Nat := (cp c - qLeast pl c) * qPrice pl c
def qWc (pl : qP) (cp : Nat → Nat) (c : Nat) : Nat := qStn pl cp c * 2 ^ 25 + 2 ^ (24 - c)
noncomputable def qCW (pl : qP) (ask : Nat) (want : Nat → Nat → Nat) (cp : Nat → Nat) : Nat := qLW (qc pl) (qWc pl cp) (qOkR pl ask want cp)
def qChT (pl : qP) (cp : Nat → Nat) (W c : Nat) : Nat := if W.testBit (24 - c) then cp c else qLeast pl c
theorem qWc_sum {pl : qP} {cp : Nat → Nat} {n : Nat} (R : Nat → Bool) : qWg n (qWc pl cp) R = 2 ^ 25 * qWg n (qStn pl cp) R + qTi n R := by
  have := qWg_sum (C := n) (fun c => qStn pl cp c * 2 ^ 25) (fun c => 2 ^ (24 - c)) R
  rw [qWg_mul, Nat.mul_comm] at this
  exact this
section CHP
variable {pl : qP} {ask : Nat} {want : Nat → Nat → Nat} {cp : Nat → Nat}
theorem qStn_le (w : qWf pl) (h9 : ∀ c, cp c ≤ 99) (c : Nat) : qStn pl cp c ≤ 9801 := by
  have h1 := w.2.2.2.2.2.2.2.2.1 c
  have h2 := h9 c
  exact Nat.mul_le_mul (show cp c - qLeast pl c ≤ 99 by omega) h1
theorem qWc_le (w : qWf pl) (h9 : ∀ c, cp c ≤ 99) (c : Nat) : qWc pl cp c ≤ 2 ^ 40 := by
  have h1 := qStn_le w h9 c
  have h2 : 2 ^ (24 - c) ≤ 2 ^ 24 := Nat.pow_le_pow_right (by decide) (by omega)
  unfold qWc
  omega
theorem ok_all (hz : qNz pl ask want cp) : qOkR pl ask want cp (fun _ => true) := fun f hf => by
  obtain ⟨c, hc⟩ := ne0_bit.mp (fam_nz hz hf)
  obtain ⟨v, s, _, _, _, e, _⟩ := hf
  exact ⟨c, bit_lt (by rw [e]; exact qAb_lt _) hc, hc, rfl⟩
/-- the best set -/
theorem qCW_spec (w : qWf pl) (h9 : ∀ c, cp c ≤ 99) (hz : qNz pl ask want cp) : ∃ R, qOkR pl ask want cp R ∧ (∀ c, c < qc pl → (qCW pl ask want cp).testBit (24 - c) = R c) ∧ qCW pl ask want cp / 2 ^ 25 = qWg (qc pl) (qStn pl cp) R ∧ (∀ R', qOkR pl ask want cp R' → qWg (qc pl) (qStn pl cp) R ≤ qWg (qc pl) (qStn pl cp) R') ∧ (∀ R', qOkR pl ask want cp R' → qWg (qc pl) (qStn pl cp) R' = qWg (qc pl) (qStn pl cp) R → qTi (qc pl) R ≤ qTi (qc pl) R') ∧ qCW pl ask want cp < 2 ^ 45 := by
  have c25 := w.c25
  obtain ⟨⟨R, h1, h2⟩, h3⟩ := qLW_spec (C := qc pl) (wt := qWc pl cp) (V := qOkR pl ask want cp) ⟨_, ok_all hz⟩
  have e : qCW pl ask want cp = 2 ^ 25 * qWg (qc pl) (qStn pl cp) R + qTi (qc pl) R := by
    rw [← qWc_sum]; exact h2.symm
  have tl := qTi_lt c25 R
  refine ⟨R, h1, fun c hc => ?_, ?_, fun R' hR' => ?_, fun R' hR' eq => ?_, ?_⟩
  · rw [e, Nat.testBit_two_pow_mul_add _ tl, if_pos (by omega), qTi_at c25 hc]
  · rw [e, Nat.mul_add_div (by decide), Nat.div_eq_of_lt tl, Nat.add_zero]
  · have := h3 R' hR'
    rw [← h2, qWc_sum, qWc_sum] at this
    have t2 := qTi_lt c25 R'
    omega
  · have := h3 R' hR'
    rw [← h2, qWc_sum, qWc_sum, eq] at this
    omega
  · have := qWg_bd (C := qc pl) (wt := qWc pl cp) (B := 2 ^ 40) (fun c _ => qWc_le w h9 c) R
    have : qc pl * 2 ^ 40 ≤ 25 * 2 ^ 40 := Nat.mul_le_mul_right _ c25
    rw [h2] at *
    show qLW _ _ _ < _
    omega
theorem qChT_stone {W n : Nat} {R : Nat → Bool} (h : ∀ c, c < n → W.testBit (24 - c) = R c) : qStone pl (qChT pl cp W) n = qWg n (qStn pl cp) R := by
  induction n with
  | zero => rfl
  | succ n ih =>
    show qStone pl (qChT pl cp W) n + _ = fb_sm _ (n + 1)
    rw [fb_sm_succ, ih (fun c hc => h c (by omega))]
    congr 1
    show (qChT pl cp W n - qLeast pl n) * qPrice pl n = if R n = true then qStn pl cp n else 0
    unfold qChT
    rw [h n (by omega)]
    cases R n
    · rw [if_neg (by decide), if_neg (by decide), Nat.sub_self, Nat.zero_mul]
    · rfl
theorem qChT_le (w : qWf pl) (h9 : ∀ c, cp c ≤ 99) (W c : Nat) : qChT pl cp W c ≤ 99 := by
  unfold qChT
  split
  · exact h9 c
  · exact w.2.2.2.2.2.2.2.1 c
theorem qCan_nz (w : qWf pl) (hle : ∀ v, v < qn pl → ask.testBit v = true → ∀ c, c < qc pl → cp c ≤ want v (qFv pl v c)) (h : qCan pl ask want cp = true) : (∀ c, c < qc pl → qLeast pl c ≤ cp c) ∧ qNz pl ask want cp := by
  obtain ⟨h1, h2⟩ := qCan_iff.mp h
  exact ⟨h1, fun v s hv ha hs e => (able_iff w hv hs (hle v hv ha)).mp e (h2 v hv ha s hs)⟩
theorem pCan_nz {pl : qP} (w : qWf pl) {set : Nat} (h : pCan pl set = true) : (∀ c, c < qc pl → qLeast pl c ≤ pCp pl set c) ∧ qNz pl (pAsk pl set) (qLine pl) (pCp pl set) :=
  qCan_nz w (fun v hv ha c _ => qCap_ask ha hv) h
end CHP
section CHC
variable {x : jX} {d : Nat} {M : jM} {pl : qP} {ask : Nat} {want : Nat → Nat → Nat} {cp : Nat → Nat}
theorem k_cheapestTown {P : jM → Prop} {o n : Nat} (so : js jtbC o = (20, n)) (hn : n < 2 ^ 31) (hn25 : 25 ≤ n) (ho : o = 39 ∨ o = 73) (hp : cPl M 30 pl) (hs : cSi M pl ask want) (hc : cCp M pl cp) (hl : ∀ c, c < qc pl → qLeast pl c ≤ cp c) (hz : qNz pl ask want cp) (h : ∀ M', jsame (fun q => q = o ∨ (53 ≤ q ∧ q ≤ 58)) M M' → (∀ q, ¬ (53 ≤ q ∧ q ≤ 58) → M'.2 q = M.2 q) → (∀ c, c < qc pl → M'.1 o c = nI (qChT pl cp (qCW pl ask want cp) c)) → (∀ c, qc pl ≤ c → M'.1 o c = M.1 o c) → P M') : JC x jtbC mX8_cheapestTown (d + 30) [.ref (x.2.2.2 49), .ref (x.2.2.2 30), .ref (x.2.2.2 o)] M (jV P) := by
  have w := hp.wf
  have c25 := w.c25
  refine b_X8_cheapestTown (d := d + 29) (k_gather hp hs hc (fun M1 a1 a2 a3 a4 => ?_))
  refine jloop (fun i (M2 : jM) => JW x jtbC mX8_cheapestTown (d + 30) (jV P) 7 [(0, .ref (x.2.2.2 49)), (1, .ref (x.2.2.2 30)), (2, .ref (x.2.2.2 o)), (3, .int (nI i))] [] M2) (fun i M2 => M2.1 = M1.1 ∧ (∀ q, q ≠ 54 → M2.2 q = M1.2 q) ∧ ∀ c, c < i → M2.2 54 c = lN (qWc pl cp c)) (qc pl) ?_ ?_ 0 M1 (Nat.zero_le _) ⟨rfl, fun _ _ => rfl, fun c hc => absurd hc (Nat.not_lt_zero _)⟩
  · rintro M2 ⟨g1, g2, g3⟩
    refine b_X8_cheapestTown_7 ?_
    rw [g1, (a1 30 (by omega)).1, hp.c]
    refine pk_le (qc pl) (qc pl) (fun _ => ?_) (fun c => absurd c (by omega))
    obtain ⟨r1, r2, r3⟩ := a4
    refine k_leastWeight (d := d) (gL_sL w (fun c _ => qWc_le w hc.2 c)) (gL_nz hz) ⟨by rw [g1]; exact r1, r2, fun k p hk => by rw [g1]; exact r3 k p hk⟩ (by rw [g1]; exact a3) (gF_lt w) g3 (fun M3 f1 => ?_)
    have eW : qLW (qc pl) (qWc pl cp) (sV (qc pl) (gL pl ask want cp) (gF pl ask want cp) 0) = qCW pl ask want cp := qLW_cong (fun R => (gV_ok w R).symm)
    rw [eW]
    obtain ⟨R, _, _, _, _, _, W45⟩ := qCW_spec w hc.2 hz
    generalize qCW pl ask want cp = W at *
    have s3 : jsame (fun q => 53 ≤ q ∧ q ≤ 58) M M3 := fun q hq => by
      have u1 := a1 q (by omega)
      have u2 := f1 q (by omega)
      refine ⟨by rw [u2.1, g1, u1.1], by rw [u2.2, g2 q (by omega), u1.2]⟩
    refine jloop (fun i (M4 : jM) => JW x jtbC mX8_cheapestTown (d + 30) (jV P) 78 [(0, .ref (x.2.2.2 49)), (1, .ref (x.2.2.2 30)), (2, .ref (x.2.2.2 o)), (3, .long (lN W)), (5, .int (nI i))] [] M4) (fun i M4 => jsame (fun q => q = o) M3 M4 ∧ M4.2 = M3.2 ∧ (∀ c, c < i → M4.1 o c = nI (qChT pl cp W c)) ∧ ∀ c, i ≤ c → M4.1 o c = M3.1 o c) (qc pl) ?_ ?_ 0 M3 (Nat.zero_le _) ⟨jsame.rf, rfl, fun c hc => absurd hc (Nat.not_lt_zero _), fun _ _ => rfl⟩
    · rintro M4 ⟨t1, t2, t3, t4⟩
      refine b_X8_cheapestTown_78 ?_
      rw [(t1 30 (by omega)).1, (s3 30 (by omega)).1, hp.c]
      refine pk_le (qc pl) (qc pl) (fun _ => ?_) (fun c => absurd c (by omega))
      refine h M4 (fun q hq => ?_) (fun q hq => by rw [t2]; exact (s3 q hq).2) t3 (fun c hc => by rw [t4 c hc, (s3 o (by omega)).1])
      have u1 := s3 q (by omega)
      have u2 := t1 q (by omega)
      exact ⟨u2.1.trans u1.1, u2.2.trans u1.2⟩
    · rintro i M4 hi ⟨t1, t2, t3, t4⟩ ih
      have r30 : ∀ q, (30 ≤ q ∧ q ≤ 38) ∨ q = 50 → M4.1 q = M.1 q := fun q hq => by rw [(t1 q (by omega)).1, (s3 q (by omega)).1]
      have go : ∀ v, v = qChT pl cp W i → ∀ M5, M5 = jrI M4 o (upd (M4.1 o) i (nI v)) → JW x jtbC mX8_cheapestTown (d + 30) (jV P) 78 [(0, .ref (x.2.2.2 49)), (1, .ref (x.2.2.2 30)), (2, .ref (x.2.2.2 o)), (3, .long (lN W)), (5, .int (nI i + 1))] [] M5 := fun v hv M5 e5 => by
        rw [nI_1]
        refine ih M5 ⟨?_, by rw [e5]; exact t2, fun c hc => ?_, fun c hc => ?_⟩
        · rw [e5]; exact t1.tr (jsame.I rfl)
        · rw [e5, jrI_s]
          by_cases q : c = i
          · rw [q, pk_us, hv]
          · rw [pk_un q]; exact t3 c (by omega)
        · rw [e5, jrI_s, pk_un (by omega)]; exact t4 c (by omega)
      refine b_X8_cheapestTown_78 ?_
      rw [r30 30 (by omega), hp.c]
      refine pk_le (qc pl) i (fun c => absurd c (by omega)) (fun _ => ?_)
      rw [lN_bit (by omega) (by omega)]
      refine ⟨fun c => b_X8_cheapestTown_106 so hn ⟨fun _ => ⟨i, by omega, rfl, by omega, ?_⟩, fun q => absurd rfl q⟩, fun c => b_X8_cheapestTown_106 so hn ⟨fun q => absurd q (by decide), fun _ => ⟨i, by omega, rfl, by omega, ?_⟩⟩⟩
      · have e32 : M.1 32 i = nI (qLeast pl i) := hp.least (by omega)
        rw [r30 32 (by omega), e32]
        exact go _ (by unfold qChT; rw [if_neg c])
      · rw [r30 50 (by omega), hc.1 i hi]
        exact go _ (by unfold qChT; rw [if_pos c])
  · rintro i M2 hi ⟨g1, g2, g3⟩ ih
    refine b_X8_cheapestTown_7 ?_
    rw [g1, (a1 30 (by omega)).1, hp.c]
    refine pk_le (qc pl) i (fun c => absurd c (by omega)) (fun _ => ⟨i, by omega, rfl, ?_⟩)
    intro M3 e3
    rw [nI_1]
    refine ih M3 ⟨by rw [e3]; exact g1, fun q hq => by rw [e3, jrL_n hq]; exact g2 q hq, fun c hc' => ?_⟩
    rw [e3, jrL_s]
    by_cases q : c = i
    · subst q
      have e32 : M.1 32 c = nI (qLeast pl c) := hp.least (by omega)
      have e33 : M.1 33 c = nI (qPrice pl c) := hp.price (by omega)
      have b1 := hc.2 c
      have b2 := w.2.2.2.2.2.2.2.2.1 c
      rw [pk_uLs, (a1 50 (by omega)).1, (a1 32 (by omega)).1, (a1 33 (by omega)).1, hc.1 c hi, e32, e33, pk_sub (hl c hi), nI_l (by omega), nI_l (by omega), lN_mul, lN_shl (k := 25) rfl, one24 c (by omega), Nat.mul_comm _ (2 ^ 25), fb_or_sumL _ (Nat.pow_lt_pow_right (by decide) (by omega))]
      unfold qWc qStn
      rw [Nat.mul_comm (2 ^ 25)]
    · rw [pk_uLn q]; exact g3 c (by omega)
theorem k_fewest {P : jM → Int32 → Prop} (hp : cPl M 30 pl) (hs : cSi M pl ask want) (hc : cCp M pl cp) (hz : qNz pl ask want cp) (h : ∀ M', jsame (fun q => 53 ≤ q ∧ q ≤ 58) M M' → P M' (nI (qLW (qc pl) (fun _ => 1) (qOkR pl ask want cp)))) : JC x jtbC mX8_fewestRaised (d + 30) [.ref (x.2.2.2 49), .ref (x.2.2.2 30)] M (jI P) := by
  have w := hp.wf
  refine b_X8_fewestRaised (d := d + 29) (k_gather hp hs hc (fun M1 a1 a2 a3 a4 => ?_))
  refine k_fillL sC_54 (by decide) (fun M2 b1 b2 b3 => ?_)
  obtain ⟨r1, r2, r3⟩ := a4
  refine k_leastWeight (d := d) (wt := fun _ => 1) (gL_sL w (fun c _ => (by decide))) (gL_nz hz) ⟨by rw [b2]; exact r1, r2, fun k p hk => by rw [b2]; exact r3 k p hk⟩ (by rw [b2]; exact a3) (gF_lt w) (fun c hc => b3 c (by have := w.c25; omega)) (fun M3 f1 => ?_)
  rw [lN_i, qLW_cong (fun R => (gV_ok w R).symm)]
  refine h M3 (fun q hq => ?_)
  have u1 := a1 q (by omega)
  have u2 := f1 q (by omega)
  have u3 := b1 q (by omega)
  exact ⟨u2.1.trans (u3.1.trans u1.1), u2.2.trans (u3.2.trans u1.2)⟩
theorem k_mustRaise {P : jM → Bool → Prop} {k : Nat} (hp : cPl M 30 pl) (hs : cSi M pl ask want) (hc : cCp M pl cp) (hk : k < qc pl) (h : ∀ M', jsame (fun q => 53 ≤ q ∧ q ≤ 58) M M' → P M' ((gF pl ask want cp).testBit k)) : JC x jtbC mX8_mustRaise (d + 4) [.ref (x.2.2.2 49), .ref (x.2.2.2 30), .int (nI k)] M (jZ P) := by
  have w := hp.wf
  have c25 := w.c25
  refine b_X8_mustRaise (d := d + 3) (k_gather hp hs hc (fun M1 a1 a2 a3 a4 => ?_))
  have g31 : gF pl ask want cp < 2 ^ 31 := Nat.lt_of_lt_of_le (gF_lt w) (Nat.pow_le_pow_right (by decide) (by omega))
  rw [a3, nI_testBit _ g31 (by omega)]
  have hh := h M1 (a1.mono (fun q hq => by omega))
  refine ⟨fun c => ?_, fun c => ?_⟩
  · rw [show (gF pl ask want cp).testBit k = false by revert c; cases (gF pl ask want cp).testBit k <;> simp] at hh
    exact hh
  · rw [c] at hh; exact hh
end CHC
