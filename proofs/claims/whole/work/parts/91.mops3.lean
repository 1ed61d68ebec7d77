/-! cheapest, least, courts, sure, instead of the model -/
theorem mI.setFr {N N' : jM} {z : qZ} {a b : Int64} (h : mI N z) (h1 : N'.1 = N.1) (h2 : ∀ q, q ≠ 0 → N'.2 q = N.2 q) (ha : N'.2 0 2 = a) (hb : N'.2 0 3 = b) : mI N' (uFr z (a, b)) := by
  obtain ⟨a1, a2, a3, a4, a5, a6, a7, a8, a9, a10, a11, a12, a13, a14, a15⟩ := h
  obtain ⟨k1, k2, k3, k4, k5, k6, k7⟩ := id a15
  exact ⟨by rw [h1]; exact a1, ha, hb, fun t ht => (a4 t ht).keep (by rw [h1]) (by rw [h1]) (fun _ _ => by rw [h2 3 (by omega)]), by rw [h1]; exact a5, fun k hk => by rw [h1]; exact a6 k hk, by rw [h1]; exact a7, by rw [h1]; exact a8, a9.keep k3 (fun k _ => by rw [h1]) (fun k _ => by rw [h2 6 (by omega)]), by rw [h1]; exact a10, fun m hm => (a11 m hm).keep (k5 m hm) (fun k _ => by rw [h1]) (fun k _ => by rw [h2 6 (by omega)]), by rw [h1]; exact a12, fun k hk => by rw [h1]; exact a13 k hk, by rw [h1]; exact a14, a15⟩
theorem mI.cov {N N' : jM} {z : qZ} (h : mI N z) (h1 : jsame (fun q => q = 0 ∨ q = 10 ∨ q = 11) N N') (h2 : N'.2 = N.2) (h3 : ∀ k, k ≠ 31 → k ≠ 32 → N'.1 0 k = N.1 0 k) : mI N' z :=
  h.keep ⟨fun q hs q0 _ _ => h1 q (by unfold mScr at hs; omega), fun k hk => h3 k (by unfold mScI at hk; omega) (by unfold mScI at hk; omega), fun k _ => by rw [h2], fun k _ => by rw [(h1 5 (by omega)).1], fun k _ => by rw [h2]⟩
/-- the tie bits: a set that has a cell less ahead, and agrees before -/
theorem qTi_cmp {n k : Nat} {R S : Nat → Bool} (hn : n ≤ 25) (hk : k < n) (h0 : R k = false) (h1 : S k = true) (h : ∀ c, c < k → R c = true → S c = true) : qTi n R < qTi n S := by
  have up : ∀ m, m ≤ n → k < m → qTi m R + 2 ^ (25 - m) ≤ qTi m S := by
    intro m hm
    induction m with
    | zero => intro q; omega
    | succ m ih =>
      intro q
      have sR : qTi (m + 1) R = qTi m R + (if R m then 2 ^ (24 - m) else 0) := rfl
      have sS : qTi (m + 1) S = qTi m S + (if S m then 2 ^ (24 - m) else 0) := rfl
      have p : 2 ^ (25 - m) = 2 ^ (24 - m) * 2 := by rw [← Nat.pow_succ]; congr 1; omega
      have p2 : 2 ^ (25 - (m + 1)) = 2 ^ (24 - m) := by congr 1; omega
      rw [sR, sS, p2]
      by_cases e : m = k
      · rw [e, h0, h1]
        have le : qTi k R ≤ qTi k S := qWg_le (fun c hc hR => h c hc hR)
        simp
        omega
      · have := ih (by omega) (by omega)
        have t1 : (if R m then 2 ^ (24 - m) else 0) ≤ 2 ^ (24 - m) := by split <;> omega
        omega
  have := up n (Nat.le_refl _) hk
  have := Nat.two_pow_pos (25 - n)
  omega
section MO3
variable {x : jX} {d : Nat} {M : jM} {z : qZ}
theorem m_fraction {P : jM → Bool → Prop} {lo hi : Nat} (h : mI M z) (hlo : lo < 2 ^ 20) (hhi : hi < 2 ^ 20) (h0 : 0 < hi) (hP : ∀ M', mI M' (qFr z lo hi) → P M' true) : JC x jtbM mX12_fraction (d + 1) [.ref (x.2.2.2 0), .long (lN lo), .long (lN hi)] M (jZ P) := by
  unfold qFr at hP
  rw [if_pos h0] at hP
  refine b_X12_fraction (b_J9_abs_067f4 ⟨fun _ => ?_, fun c => absurd (show lN 0 ≤ lN lo from (pk_lLE (by decide) (by omega)).mpr (Nat.zero_le _)) c⟩)
  have key : ∀ y X, X < 2 ^ 20 → y < 2 ^ 20 → (y = 0 → 0 < X) → Nat.gcd X y = Nat.gcd lo hi → JW x jtbM mX12_fraction (d + 1) (jZ P) 9 [(0, .ref (x.2.2.2 0)), (1, .long (lN lo)), (3, .long (lN hi)), (5, .long (lN X)), (7, .long (lN y))] [] M := by
    intro y
    induction y using Nat.strongRecOn with
    | ind y ih =>
      intro X hX hy hp hg
      refine b_X12_fraction_9 ?_
      rw [show (0 : Int64) = lN 0 from rfl, pk_lEQ (by omega) (by decide)]
      refine ⟨fun e => ?_, fun e => ⟨e, ?_⟩⟩
      · subst e
        rw [Nat.gcd_zero_right] at hg
        have x0 := hp rfl
        have nz : ¬ lN X = lN 0 := fun q => by have := (pk_lEQ (by omega) (by decide)).mp q; omega
        refine ⟨nz, ?_⟩
        intro M1 e1
        refine ⟨nz, ?_⟩
        intro M2 e2
        rw [pk_lDiv (by omega) x0 (by omega), hg] at e1 e2
        refine hP M2 (h.setFr (by rw [e2, e1]; rfl) (fun q hq => by rw [e2, jrL_n hq, e1, jrL_n hq]) ?_ ?_)
        · rw [e2, jrL_s, pk_uLn (by omega), e1, jrL_s, pk_uLs]
        · rw [e2, jrL_s, pk_uLs]
      · rw [pk_lRem (by omega) (by omega) (by omega)]
        have r := Nat.mod_lt X (show 0 < y by omega)
        exact ih (X % y) r y hy (by omega) (fun _ => by omega) (by rw [← gcd_step]; exact hg)
  exact key hi lo hlo hhi (fun q => by omega) rfl
theorem n_sure {P : jM → Int32 → Prop} {a b w : Int32} (h : mI M z) (hP : ∀ M', mI M' (sSure z a b w).1 → P M' (sSure z a b w).2) : JC x jtbM mX12_sure (d + 3) [.ref (x.2.2.2 0), .int a, .int b, .int w] M (jI P) := by
  unfold sSure at hP
  have wf := h.pl.wf
  have h25 := wf.c25
  have h6 := wf.2.2.2.1
  refine b_X12_sure (d := d + 2) ?_
  rintro M1 rfl M2 rfl
  have h2 := (h.th 0).st 0
  generalize jrI (jrI M 0 (upd (M.1 0) 1 0)) 0 (upd ((jrI M 0 (upd (M.1 0) 1 0)).1 0) 0 0) = M2 at h2 ⊢
  refine k_mIsSet h2.pl ⟨fun c => ?_, fun c => k_mIsCell h2.pl ⟨fun c2 => ?_, fun c2 => ?_⟩⟩
  · rw [show qin a (2 ^ qn (zP z)) = false from c] at hP; exact m_refuse h2 hP
  · rw [show qin a (2 ^ qn (zP z)) = true from c, show qin b (qc (zP z)) = true from c2] at hP
    rw [if_pos (show (true && true) = true from rfl)] at hP
    refine k_mIsInC 2 rfl ⟨fun w2 => ?_, fun w2 => by rw [w2] at hP; exact m_refuse h2 hP⟩
    rw [if_pos w2] at hP
    obtain ⟨k, hk, rfl, e⟩ := qin_0 c (pow31 h2.pl.wf)
    obtain ⟨j, hj, rfl, e2⟩ := qin_0 c2 (by have : qc (zP (uSt z 0)) = qc (zP z) := rfl; omega)
    have hj' : j < qc (zP z) := hj
    rw [e, e2] at hP
    refine k_mKeep (set64 h2.pl.wf hk) h2 (fun M5 h5 g3 g4 _ => ⟨fun q => ?_, fun q => ?_⟩)
    · rw [if_pos (show pCan (zP z) k = true from q)] at hP
      have g3' : mSi M5 (zP z) (pAsk (zP z) k) (qLine (zP z)) := g3
      have g4' : mCp M5 (zP z) (pCp (zP z) k) := g4
      obtain ⟨l1, nz⟩ := pCan_nz wf (show pCan (zP z) k = true from q)
      have pl5 : mPl (M5.1 5) (zP z) := h5.pl
      refine ⟨fun w1 => ?_, fun w1 => ⟨j, by omega, rfl, ?_⟩⟩
      · have out : ∀ v, (v = pSure (zP z) k j w) → P M5 (nI v) := fun v hv => by
          have := hP M5 h5
          rw [hv]; exact this
        refine jloop (fun i (_ : Unit) => JW x jtbM mX12_sure (d + 3) (jI P) 82 [(0, .ref (x.2.2.2 0)), (2, .int (nI j)), (4, .int (nI i))] [] M5) (fun i _ => ∀ v, v < i → (pAsk (zP z) k).testBit v = true → ¬ qAb (zP z) (qLine (zP z)) (pCp (zP z) k) v (qFv (zP z) v j) (qc (zP z)) = 2 ^ j) (qn (zP z)) ?_ ?_ 0 () (Nat.zero_le _) (fun v hv => absurd hv (Nat.not_lt_zero _))
        · rintro _ hI
          refine b_X12_sure_82 ?_
          rw [pl5.n]
          refine pk_le (qn (zP z)) (qn (zP z)) (fun _ => ⟨28 + j, by omega, by rw [jn28, nI_add], ?_⟩) (fun c => absurd c (by omega))
          rw [pl5.least (by omega)]
          refine out _ ?_
          unfold pSure
          rw [if_neg]
          rintro (u | u)
          · exact w1 u
          · rw [gF_fam wf nz] at u
            obtain ⟨v, s, v1, v2, v3, v4, v5⟩ := u
            have bt : (qAb (zP z) (qLine (zP z)) (pCp (zP z) k) v s (qc (zP z))).testBit j = true := by rw [← v4, Nat.testBit_two_pow_self]
            rw [qAb_bit, Bool.and_eq_true, decide_eq_true_iff, decide_eq_true_iff] at bt
            exact hI v v1 v2 (by rw [bt.2.1]; exact v4.symm)
        · rintro i _ hi hI ih
          have sd := wf.2.2.2.2.2.2.2.2.2.1 i
          have hF := qF_lt (w := qw (zP z)) (h := qh (zP z)) sd hj'
          refine b_X12_sure_82 ?_
          rw [pl5.n]
          refine pk_le (qn (zP z)) i (fun c => absurd c (by omega)) (fun _ => ⟨i, by omega, rfl, ?_⟩)
          rw [g3'.1 i hi, jb_0, nI_1]
          refine ⟨fun u => ih () (fun v hv ha => ?_), fun u => ⟨78 + i, by omega, by rw [jn78, nI_add], ?_⟩⟩
          · rcases Nat.lt_or_ge v i with t | t
            · exact hI v t ha
            · obtain rfl : v = i := by omega
              rw [u] at ha; cases ha
          · have ha : (pAsk (zP z) k).testBit i = true := by revert u; cases (pAsk (zP z) k).testBit i <;> simp
            rw [pl5.side hi]
            refine k_mStripOf (pl := zP z) pl5 sd hj' ?_
            refine k_mAbleIn (pl := zP z) pl5 g3' g4' hi ha hF ?_
            have ab := qAb_lt (pl := zP z) (want := qLine (zP z)) (cp := pCp (zP z) k) (v := i) (s := qF (qw (zP z)) (qh (zP z)) (qSide (zP z) i) j) (qc (zP z))
            have p31 : ∀ n, n < 2 ^ qc (zP z) → n < 2 ^ 31 := fun n hn => Nat.lt_of_lt_of_le hn (Nat.pow_le_pow_right (by decide) (by omega))
            rw [nI_shl1 _ (by omega), nI_eq (p31 _ ab) (Nat.pow_lt_pow_right (by decide) (by omega))]
            refine ⟨fun u2 => ih () (fun v hv ha' => ?_), fun u2 => ⟨j, by omega, rfl, ?_⟩⟩
            · rcases Nat.lt_or_ge v i with t | t
              · exact hI v t ha'
              · obtain rfl : v = i := by omega
                exact u2
            · rw [g4'.1 j hj']
              refine out _ ?_
              unfold pSure
              by_cases fo : (gF (zP z) (pAsk (zP z) k) (qLine (zP z)) (pCp (zP z) k)).testBit j = true
              · rw [if_pos (Or.inr fo)]
              · rw [if_neg (fun t => t.elim w1 fo)]
                apply Classical.byContradiction
                intro ne
                refine fo ((gF_fam wf nz j).mpr ⟨i, _, hi, ha, hF, u2.symm, ?_⟩)
                rintro ⟨c, c1, c2⟩
                rw [Nat.testBit_two_pow, decide_eq_true_iff] at c1
                rw [← c1] at c2
                exact ne c2
      · rw [g4'.1 j hj']
        have := hP M5 h5
        unfold pSure at this
        rw [if_pos (Or.inl w1)] at this
        exact this
    · rw [show pCan (zP z) k = false from q] at hP; exact m_refuse h5 hP
  · rw [show qin a (2 ^ qn (zP z)) = true from c, show qin b (qc (zP z)) = false from c2] at hP; exact m_refuse h2 hP
theorem n_courts {P : jM → Int32 → Prop} {a : Int32} (h : mI M z) (hP : ∀ M', mI M' (sCourts z a).1 → P M' (sCourts z a).2) : JC x jtbM mX12_courts (d + 28) [.ref (x.2.2.2 0), .int a] M (jI P) := by
  unfold sCourts at hP
  have w := h.pl.wf
  have h25 := w.c25
  refine b_X12_courts (d := d + 27) ?_
  rintro M1 rfl M2 rfl
  have h2 := (h.th 0).st 0
  generalize jrI (jrI M 0 (upd (M.1 0) 1 0)) 0 (upd ((jrI M 0 (upd (M.1 0) 1 0)).1 0) 0 0) = M2 at h2 ⊢
  refine k_mIsSet h2.pl ⟨fun c => ?_, fun c => ?_⟩
  · rw [if_pos (show qin a (2 ^ qn (zP z)) = true from c)] at hP
    obtain ⟨k, hk, rfl, e2⟩ := qin_0 c (pow31 h2.pl.wf)
    rw [e2] at hP
    refine k_mKeep (d := d + 25) (set64 h2.pl.wf hk) h2 (fun M5 h5 g3 g4 _ => ⟨fun q => ?_, fun q => ?_⟩)
    · rw [show pCan (zP z) k = true from q] at hP
      have g3' : mSi M5 (zP z) (pAsk (zP z) k) (qLine (zP z)) := g3
      have g4' : mCp M5 (zP z) (pCp (zP z) k) := g4
      obtain ⟨l1, nz⟩ := pCan_nz w (show pCan (zP z) k = true from q)
      have pl5 : mPl (M5.1 5) (zP z) := h5.pl
      refine m_findCovers (pl := zP z) pl5 g3' g4' (fun M6 a1 a2 a3 a4 => ?_)
      refine jloop (fun i (M7 : jM) => JW x jtbM mX12_courts (d + 28) (jI P) 49 [(0, .ref (x.2.2.2 0)), (2, .int (nI i))] [] M7) (fun i M7 => jsame (fun q => q = 10) M6 M7 ∧ M7.2 = M6.2 ∧ ∀ c, c < i → M7.1 10 c = nI 1) (qc (zP z)) ?_ ?_ 0 M6 (Nat.zero_le _) ⟨jsame.rf, rfl, fun c hc => absurd hc (Nat.not_lt_zero _)⟩
      · rintro M7 ⟨f1, f2, f3⟩
        have pl7 : mPl (M7.1 5) (zP z) := by rw [(f1 5 (by omega)).1, (a1 5 (by omega)).1]; exact pl5
        refine b_X12_courts_49 (k_mCells pl7 (pk_le (qc (zP z)) (qc (zP z)) (fun _ => k_mCells pl7 (k_mAll pl7 ?_)) (fun c => absurd c (by omega))))
        have S : mS (qc (zP z)) (mVl (zP z) (pAsk (zP z) k) (qLine (zP z)) (pCp (zP z) k) (qn (zP z))) (fun _ => 1) (zP z) M7 := by
          obtain ⟨s1, s2, s3⟩ := a4
          refine ⟨pl7, rfl, ⟨by rw [(f1 0 (by omega)).1]; exact s1, s2, fun k f hk => by rw [(f1 11 (by omega)).1]; exact s3 k f hk⟩, f3, fun c _ => (show 1 ≤ 9801 by decide), fun f hf => ?_⟩
          obtain ⟨v, s, _, _, _, e, _⟩ := mVl_fam.mp hf
          rw [e]; exact qAb_lt _
        refine m_leastCover S (all_lt _) (fun M8 r b1 b2 b3 b4 b5 => ?_)
        rw [b4 ⟨_, mV_ok.mpr (ok_all nz)⟩, qLW_cong (fun R => mV_ok)]
        have le : pFew (zP z) k ≤ qc (zP z) := by
          have := (qLW_spec (C := qc (zP z)) (wt := fun _ => 1) (V := qOkR (zP z) (pAsk (zP z) k) (qLine (zP z)) (pCp (zP z) k)) ⟨_, ok_all nz⟩).2 _ (ok_all nz)
          have := qWg_bd (C := qc (zP z)) (wt := fun _ => 1) (B := 1) (fun _ _ => Nat.le_refl _) (fun _ => true)
          show qLW _ _ _ ≤ _
          omega
        rw [pk_sub (show qLW (qc (zP z)) (fun _ => 1) (qOkR (zP z) (pAsk (zP z) k) (qLine (zP z)) (pCp (zP z) k)) ≤ qc (zP z) from le)]
        refine hP M8 (h5.cov (fun q hq => ?_) (b2.trans (f2.trans a2)) (fun k h1 h2 => by rw [b3 k h2, (f1 0 (by omega)).1]; exact a3 k h1))
        have u1 := a1 q (by omega)
        have u2 := f1 q (by omega)
        have u3 := b1 q (by omega)
        exact ⟨u3.1.trans (u2.1.trans u1.1), u3.2.trans (u2.2.trans u1.2)⟩
      · rintro i M7 hi ⟨f1, f2, f3⟩ ih
        have pl7 : mPl (M7.1 5) (zP z) := by rw [(f1 5 (by omega)).1, (a1 5 (by omega)).1]; exact pl5
        refine b_X12_courts_49 (k_mCells pl7 (pk_le (qc (zP z)) i (fun c => absurd c (by omega)) (fun _ => ⟨i, by omega, rfl, ?_⟩)))
        intro M8 e8
        rw [nI_1]
        refine ih M8 ⟨by rw [e8]; exact f1.tr (jsame.I rfl), by rw [e8]; exact f2, fun c hc => ?_⟩
        rw [e8, jrI_s]
        by_cases q : c = i
        · rw [q, pk_us]; rfl
        · rw [pk_un q]; exact f3 c (by omega)
    · rw [show pCan (zP z) k = false from q] at hP; exact m_refuse h5 hP
  · rw [show qin a (2 ^ qn (zP z)) = false from c] at hP; exact m_refuse h2 hP
theorem n_least {P : jM → Int32 → Prop} {a : Int32} (h : mI M z) (hP : ∀ M', mI M' (sLeast z a).1 → P M' (sLeast z a).2) : JC x jtbM mX12_least (d + 29) [.ref (x.2.2.2 0), .int a] M (jI P) := by
  unfold sLeast at hP
  have w := h.pl.wf
  have h25 := w.c25
  refine b_X12_least (d := d + 28) ?_
  rintro M1 rfl M2 rfl
  have h2 := (h.th 0).st 0
  generalize jrI (jrI M 0 (upd (M.1 0) 1 0)) 0 (upd ((jrI M 0 (upd (M.1 0) 1 0)).1 0) 0 0) = M2 at h2 ⊢
  refine k_mIsSet h2.pl ⟨fun c => ?_, fun c => ?_⟩
  · rw [if_pos (show qin a (2 ^ qn (zP z)) = true from c)] at hP
    obtain ⟨k, hk, rfl, e2⟩ := qin_0 c (pow31 h2.pl.wf)
    rw [e2] at hP
    refine k_mKeep (d := d + 26) (set64 h2.pl.wf hk) h2 (fun M5 h5 g3 g4 _ => ⟨fun q => ?_, fun q => ?_⟩)
    · rw [show pCan (zP z) k = true from q] at hP
      have g3' : mSi M5 (zP z) (pAsk (zP z) k) (qLine (zP z)) := g3
      have g4' : mCp M5 (zP z) (pCp (zP z) k) := g4
      obtain ⟨l1, nz⟩ := pCan_nz w (show pCan (zP z) k = true from q)
      have pl5 : mPl (M5.1 5) (zP z) := h5.pl
      refine jloop (fun i (s : Int32) => JW x jtbM mX12_least (d + 29) (jI P) 47 [(0, .ref (x.2.2.2 0)), (2, .int s), (3, .int (nI i))] [] M5) (fun i s => s = nI (qStone (zP z) (pCp (zP z) k) i)) (qc (zP z)) ?_ ?_ 0 0 (Nat.zero_le _) rfl
      · rintro _ rfl
        refine b_X12_least_47 (k_mCells (pl := zP z) pl5 (pk_le (qc (zP z)) (qc (zP z)) (fun _ => ?_) (fun c => absurd c (by omega))))
        refine m_cheapestCost (pl := zP z) pl5 g3' g4' l1 nz (fun M6 a1 a2 a3 a4 => ?_)
        have h6 := h5.cov a1 a2 a3
        have b1 := qStone_le w (f := pCp (zP z) k) g4'.2 (qc (zP z))
        have b2 : qc (zP z) * 9801 ≤ 25 * 9801 := Nat.mul_le_mul_right _ h25
        have b3 : pW (zP z) k / 2 ^ 25 < 2 ^ 20 := by
          have := (qCW_spec w g4'.2 nz).choose_spec.2.2.2.2.2
          exact (Nat.div_lt_iff_lt_mul (by decide)).mpr this
        rw [show qCW (zP z) (pAsk (zP z) k) (qLine (zP z)) (pCp (zP z) k) = pW (zP z) k from rfl]
        rw [if_pos rfl] at hP
        generalize pW (zP z) k / 2 ^ 25 = lo at *
        generalize qStone (zP z) (pCp (zP z) k) (qc (zP z)) = hi at *
        refine ⟨fun z0 => ?_, fun z0 => ?_⟩
        · have : hi = 0 := by
            apply Classical.byContradiction
            intro u
            exact nI_nle (by omega) (by omega) z0
          unfold qFr at hP
          rw [if_neg (by omega)] at hP
          exact hP M6 h6
        · have h0 : 0 < hi := Nat.pos_of_ne_zero (fun u => z0 (by rw [u]; decide))
          rw [nI_l (by omega), nI_l (by omega)]
          refine m_fraction (d := d + 27) h6 b3 (by omega) h0 (fun M7 h7 => hP M7 ?_)
          have : qFr (uSt z 0) lo hi = uSt (qFr z lo hi) 0 := by
            unfold qFr
            rw [if_pos h0, if_pos h0]; rfl
          rw [← this]; exact h7
      · rintro i _ hi rfl ih
        refine b_X12_least_47 (k_mCells (pl := zP z) pl5 (pk_le (qc (zP z)) i (fun c => absurd c (by omega)) (fun _ => ⟨i, by omega, rfl, 28 + i, by omega, by rw [jn28, nI_add], 53 + i, by omega, by rw [jn53, nI_add], ?_⟩)))
        rw [g4'.1 i hi, pl5.least (by omega), pl5.price (by omega), pk_sub (l1 i hi), pk_mul, nI_add, nI_1]
        exact ih _ rfl
    · rw [show pCan (zP z) k = false from q] at hP; exact m_refuse h5 hP
  · rw [show qin a (2 ^ qn (zP z)) = false from c] at hP; exact m_refuse h2 hP
theorem n_instead {P : jM → Int32 → Prop} {a : Int32} (h : mI M z) (hP : ∀ M', mI M' (sInstead z a).1 → P M' (sInstead z a).2) : JC x jtbM mX12_instead (d + 29) [.ref (x.2.2.2 0), .int a] M (jI P) := by
  unfold sInstead at hP
  have w := h.pl.wf
  have h25 := w.c25
  refine b_X12_instead (d := d + 28) ?_
  rintro M1 rfl M2 rfl
  have h2 := (h.th 0).st 0
  generalize jrI (jrI M 0 (upd (M.1 0) 1 0)) 0 (upd ((jrI M 0 (upd (M.1 0) 1 0)).1 0) 0 0) = M2 at h2 ⊢
  refine k_mIsCell (d := d + 27) h2.pl ⟨fun c => ?_, fun c => ?_⟩
  · rw [if_pos (show qin a (qc (zP z)) = true from c)] at hP
    obtain ⟨k, hk, rfl, e2⟩ := qin_0 c (by have : qc (zP (uSt z 0)) = qc (zP z) := rfl; omega)
    have hk' : k < qc (zP z) := hk
    rw [e2] at hP
    refine k_mAskAsSeen (d := d + 26) (pl := zP z) (f := zT z) h2.pl h2.tn (fun M3 f1 f2 f3 => ?_)
    have h3 : mI M3 (uSt z 0) := h2.keep (mSame.row (f1.mono (fun q hq => by unfold mScr; omega)))
    have f3' : mSi M3 (zP z) (2 ^ qn (zP z) - 1) (pSee (zP z) (zT z)) := f3
    refine k_mTellCaps (d := d + 27) (pl := zP z) h3.pl f3' (fun M4 g1 g2 g3 => ⟨k, by omega, rfl, 28 + k, by omega, by rw [jn28, nI_add], ?_⟩)
    have h4 : mI M4 (uSt z 0) := h3.keep (mSame.row (g1.mono (fun q hq => by unfold mScr; omega)))
    have pl4 : mPl (M4.1 5) (zP z) := h4.pl
    have b1 := g3.2 k
    have b2 := w.2.2.2.2.2.2.2.1 k
    rw [pl4.least (by omega), g3.1 k hk']
    refine pk_le (qLeast (zP z) k) (qCp (zP z) (2 ^ qn (zP z) - 1) (pSee (zP z) (zT z)) k) (fun le => ?_) (fun lt => ?_)
    · intro M5 e5
      have s5 : jsame (fun q => q = 9) M4 M5 := by rw [e5]; exact jsame.I rfl
      have h5 : mI M5 (uSt z 0) := h4.keep (mSame.row (s5.mono (fun q hq => by unfold mScr; omega)))
      have c5 : mCp M5 (zP z) (pIn (zP z) (zT z) k) := ⟨fun c hc => by
        rw [e5, jrI_s]
        unfold pIn
        by_cases q : c = k
        · rw [q, pk_us, if_pos rfl, Nat.min_eq_right le]
        · rw [pk_un q, if_neg q]; exact g3.1 c hc, fun c => pIn_le w k c⟩
      have s5' : mSi M5 (zP z) (2 ^ qn (zP z) - 1) (pSee (zP z) (zT z)) := by
        unfold mSi; rw [(s5 7 (by omega)).1, (s5 8 (by omega)).1, (g1 7 (by omega)).1, (g1 8 (by omega)).1]; exact f3'
      refine k_mCanKeep (d := d + 26) (pl := zP z) h5.pl s5' c5 (pIn_hle k) (fun M6 k1 k2 k3 k4 => ?_)
      have s6 : mSame M5 M6 := ⟨fun q _ q0 _ _ => k1 q q0, fun k hk => k4 k (by unfold mScI at hk; omega), fun k _ => by rw [k2], fun k _ => by rw [(k1 5 (by omega)).1], fun k _ => by rw [k2]⟩
      have h6 : mI M6 (uSt z 0) := h5.keep s6
      refine ⟨fun q => ?_, fun q => ?_⟩
      · rw [q] at hP; exact m_refuse h6 hP
      · rw [if_pos q] at hP
        obtain ⟨l1, nz⟩ := qCan_nz w (pIn_hle k) q
        refine m_cheapestCost (pl := zP z) h6.pl (by unfold mSi; rw [(k1 7 (by omega)).1, (k1 8 (by omega)).1]; exact s5') (by unfold mCp; rw [(k1 9 (by omega)).1]; exact c5) l1 nz (fun M7 t1 t2 t3 t4 => hP M7 (h6.cov t1 t2 t3))
    · have no : qCan (zP z) (2 ^ qn (zP z) - 1) (pSee (zP z) (zT z)) (pIn (zP z) (zT z) k) = false := by
        cases u : qCan (zP z) (2 ^ qn (zP z) - 1) (pSee (zP z) (zT z)) (pIn (zP z) (zT z) k)
        · rfl
        · have := (qCan_iff.mp u).1 k hk'
          unfold pIn at this
          rw [if_pos rfl] at this
          omega
      rw [no] at hP; exact m_refuse h4 hP
  · rw [show qin a (qc (zP z)) = false from c] at hP; exact m_refuse h2 hP
end MO3
