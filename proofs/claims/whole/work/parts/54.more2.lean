/-! feed, buildAll, largest, marks, down -/
theorem qFeed_at {f : Nat → Int32} {t m q : Nat} {xs : Nat → Int32} (hm : m < 5) (hq : q < 4) : qFeed f t xs (t + 4 * m + q) = qByte (xs m) q := by
  unfold qFeed
  rw [if_neg (by omega), if_pos (by omega), show (t + 4 * m + q - t) / 4 = m by omega, show (t + 4 * m + q - t) % 4 = q by omega]
theorem qFeed_lo {f : Nat → Int32} {t k : Nat} {xs : Nat → Int32} (h : k < t) : qFeed f t xs k = f k := if_pos h
section FEE
variable {x : jX} {d : Nat} {M : jM} {z : qZ}
/-- the tape after m of the five -/
def pbC (M M' : jM) (f : Nat → Int32) (t m : Nat) : Prop := jsame (fun q => q = 0 ∨ q = 2) M M' ∧ (∀ k, k ≠ 14 → M'.1 0 k = M.1 0 k) ∧ M'.1 0 14 = nI (t + 4 * m) ∧ ∀ k, k < t + 4 * m → M'.1 2 k = f k
theorem k_put {P : jM → Prop} {M' : jM} {f : Nat → Int32} {xs : Nat → Int32} {t m : Nat} (hm : m < 5) (ht : t + 20 ≤ 900) (hI : pbC M M' (qFeed f t xs) t m) (h : ∀ M2, pbC M M2 (qFeed f t xs) t (m + 1) → P M2) : JC x jtbC mX11_putBytes d [.ref (x.2.2.2 0), .int (xs m)] M' (jV P) := by
  obtain ⟨g1, g2, g3, g4⟩ := hI
  refine k_putBytes g3 (by omega) (fun M2 k1 k2 k3 k4 k5 k6 => h M2 ⟨g1.tr k1, fun k hk => (k3 k hk).trans (g2 k hk), by rw [k4]; rfl, fun k hk => ?_⟩)
  rcases Nat.lt_or_ge k (t + 4 * m) with q | q
  · rw [k5 k q]; exact g4 k q
  · have := k6 (k - (t + 4 * m)) (by omega)
    rw [show t + 4 * m + (k - (t + 4 * m)) = k by omega] at this
    rw [this, show k = t + 4 * m + (k - (t + 4 * m)) by omega, qFeed_at hm (by omega)]
    congr 1
    omega
theorem o_feed {P : jM → Int32 → Prop} {a b c e g : Int32} (h : cI M z) (hP : ∀ M', cI M' (sFeed z a b c e g).1 → P M' (sFeed z a b c e g).2) : JC x jtbC mX11_feed (d + 1) [.ref (x.2.2.2 0), .int a, .int b, .int c, .int e, .int g] M (jI P) := by
  unfold sFeed at hP
  have h9 := h.ok.1
  have e14 : M.1 0 14 = nI (zTp z).1 := h.2.2.2.2.1
  have e2 : ∀ k, k < (zTp z).1 → M.1 2 k = (zTp z).2 k := h.2.2.2.2.2.1
  refine b_X11_feed ?_
  rw [e14, jn20, nI_add, jn900]
  refine pk_le ((zTp z).1 + 20) 900 (fun q => ?_) (fun q => ?_)
  · rw [if_pos q] at hP
    have I0 : pbC M M (qFeed (zTp z).2 (zTp z).1 (five a b c e g)) (zTp z).1 0 := ⟨jsame.rf, fun _ _ => rfl, e14, fun k hk => by rw [qFeed_lo (show k < (zTp z).1 by omega)]; exact e2 k (by omega)⟩
    refine k_put (xs := five a b c e g) (m := 0) (by omega) q I0 (fun M1 I1 => ?_)
    refine k_put (xs := five a b c e g) (m := 1) (by omega) q I1 (fun M2 I2 => ?_)
    refine k_put (xs := five a b c e g) (m := 2) (by omega) q I2 (fun M3 I3 => ?_)
    refine k_put (xs := five a b c e g) (m := 3) (by omega) q I3 (fun M4 I4 => ?_)
    refine k_put (xs := five a b c e g) (m := 4) (by omega) q I4 (fun M5 I5 => ?_)
    obtain ⟨g1, g2, g3, g4⟩ := I5
    rw [g3]
    exact hP _ (h.setTp g1 g2 g3 q g4 (qFeed_rng h.ok.2.1 _ _))
  · rw [if_neg (by omega)] at hP
    exact hP _ h
def pbM (M M' : jM) (f : Nat → Int32) (t m : Nat) : Prop := jsame (fun q => q = 0 ∨ q = 4) M M' ∧ M'.2 = M.2 ∧ (∀ k, k ≠ 8 → M'.1 0 k = M.1 0 k) ∧ M'.1 0 8 = nI (t + 4 * m) ∧ ∀ k, k < t + 4 * m → M'.1 4 k = f k
theorem k_mput {P : jM → Prop} {M' : jM} {f : Nat → Int32} {xs : Nat → Int32} {t m : Nat} (hm : m < 5) (ht : t + 20 ≤ 900) (hI : pbM M M' (qFeed f t xs) t m) (h : ∀ M2, pbM M M2 (qFeed f t xs) t (m + 1) → P M2) : JC x jtbM mX12_lay d [.ref (x.2.2.2 0), .int (xs m)] M' (jV P) := by
  obtain ⟨g1, g0, g2, g3, g4⟩ := hI
  refine k_lay g3 (by omega) (fun M2 k1 k2 k3 k4 k5 k6 => h M2 ⟨g1.tr k1, k2.trans g0, fun k hk => (k3 k hk).trans (g2 k hk), by rw [k4]; rfl, fun k hk => ?_⟩)
  rcases Nat.lt_or_ge k (t + 4 * m) with q | q
  · rw [k5 k q]; exact g4 k q
  · have := k6 (k - (t + 4 * m)) (by omega)
    rw [show t + 4 * m + (k - (t + 4 * m)) = k by omega] at this
    rw [this, show k = t + 4 * m + (k - (t + 4 * m)) by omega, qFeed_at hm (by omega)]
    congr 1
    omega
theorem n_feed {P : jM → Int32 → Prop} {a b c e g : Int32} (h : mI M z) (hP : ∀ M', mI M' (sFeed z a b c e g).1 → P M' (sFeed z a b c e g).2) : JC x jtbM mX12_feed (d + 1) [.ref (x.2.2.2 0), .int a, .int b, .int c, .int e, .int g] M (jI P) := by
  unfold sFeed at hP
  have h9 := h.ok.1
  refine b_X12_feed ?_
  rintro M1 rfl
  have h1 := h.th 0
  generalize jrI M 0 (upd (M.1 0) 1 0) = M1 at h1 ⊢
  have e14 : M1.1 0 8 = nI (zTp z).1 := h1.2.2.2.2.1
  have e2 : ∀ k, k < (zTp z).1 → M1.1 4 k = (zTp z).2 k := h1.2.2.2.2.2.1
  rw [e14, jn20, nI_add, jn900]
  refine pk_le ((zTp z).1 + 20) 900 (fun q => ?_) (fun q => ?_)
  · rw [if_pos q] at hP
    have I0 : pbM M1 M1 (qFeed (zTp z).2 (zTp z).1 (five a b c e g)) (zTp z).1 0 := ⟨jsame.rf, rfl, fun _ _ => rfl, e14, fun k hk => by rw [qFeed_lo (show k < (zTp z).1 by omega)]; exact e2 k (by omega)⟩
    refine k_mput (xs := five a b c e g) (m := 0) (by omega) q I0 (fun M2 I1 => ?_)
    refine k_mput (xs := five a b c e g) (m := 1) (by omega) q I1 (fun M3 I2 => ?_)
    refine k_mput (xs := five a b c e g) (m := 2) (by omega) q I2 (fun M4 I3 => ?_)
    refine k_mput (xs := five a b c e g) (m := 3) (by omega) q I3 (fun M5 I4 => ?_)
    refine k_mput (xs := five a b c e g) (m := 4) (by omega) q I4 (fun M6 I5 => ?_)
    obtain ⟨g1, g0, g2, g3, g4⟩ := I5
    rw [g3]
    exact hP _ (h1.setTp g1 g0 g2 g3 q g4 (qFeed_rng h.ok.2.1 _ _))
  · rw [if_neg (by omega)] at hP
    exact hP _ h1
theorem k_trayRow {P : jM → Int32 → Prop} {a : Int32} {m : Nat} (hm : m < 2 ^ 31) (h : cI M z) (hP : P M (if qin a 4 then (if (zTr z a.toNatClampNeg).1 then nI (qRs (zTr z a.toNatClampNeg) m) else 3) else 1)) : JC x jtbC mX11_trayRowStatus (d + 2) [.ref (x.2.2.2 0), .int a, .int (nI m)] M (jI P) := by
  refine b_X11_trayRowStatus (k_isTray ⟨fun q => ?_, fun q => ?_⟩)
  · rw [if_pos q] at hP
    obtain ⟨t, ht, rfl, e⟩ := qin_0 q (by omega)
    rw [e] at hP
    have tr := h.tr ht
    refine ⟨t, ht, rfl, ?_⟩
    rw [tr.1, jb_0]
    refine ⟨fun c => by rw [c] at hP; exact hP, fun c => ?_⟩
    have c' : (zTr z t).1 = true := by revert c; cases (zTr z t).1 <;> simp
    rw [if_pos c'] at hP
    exact k_rowStatus hm (at9 ht) tr hP
  · rw [q] at hP; exact hP
theorem o_buildAll {P : jM → Bool → Prop} {a : Int32} (h : cI M z) (hP : ∀ M', cI M' (sBuildAll z a).1 → P M' (sBuildAll z a).2) : JC x jtbC mX11_buildAll (d + 3) [.ref (x.2.2.2 0), .int a] M (jZ P) := by
  unfold sBuildAll at hP
  have h25 := h.pl.wf.c25
  refine b_X11_buildAll ?_
  rw [h.pl.c]
  refine k_trayRow (by omega) h ?_
  by_cases q : qin a 4 = true
  · rw [if_pos q] at hP ⊢
    obtain ⟨t, ht, rfl, e⟩ := qin_0 q (by omega)
    rw [e] at hP ⊢
    have tr := h.tr ht
    by_cases c : (zTr z t).1 = true
    · rw [if_pos c] at hP ⊢
      have h5 := qRs_le (zTr z t) (qc (zP z))
      by_cases r : qRs (zTr z t) (qc (zP z)) = 0
      · rw [if_pos r] at hP
        rw [r]
        refine ⟨fun w => absurd rfl w, fun _ => ⟨t, ht, rfl, ?_⟩⟩
        obtain ⟨r1, r2⟩ := qRs_0 r
        rw [h.pl.c]
        refine k_copyHeights (from_ := 0) (place := 0) (many := qc (zP z)) (at9 ht) tr sC_39 (by decide) (by omega) (by omega) (fun k hk => by rw [Nat.zero_add]; exact r2 k hk) (fun M1 g1 g2 g3 g4 => ?_)
        refine c_isDone (z := uTn z (tcpy (qtH (zTr z t)) (zT z) (qc (zP z)))) (h.setTn g1 (fun c hc => ?_) (tcpy_le (qtH_le _) h.t9)) hP
        unfold tcpy
        by_cases w : c < qc (zP z)
        · rw [if_pos w]
          have := g3 c w
          rw [Nat.zero_add] at this
          exact this
        · rw [if_neg w, g4 c (by omega)]; exact h.tw c hc
      · rw [if_neg r] at hP
        have rn : ¬ nI (qRs (zTr z t) (qc (zP z))) = 0 := nI_ne0 (by omega) (by omega)
        exact ⟨fun _ => c_isDone h hP, fun w => absurd w rn⟩
    · rw [if_neg c] at hP ⊢
      exact ⟨fun _ => c_isDone h hP, fun w => absurd w (by decide)⟩
  · rw [if_neg q] at hP ⊢
    exact ⟨fun _ => c_isDone h hP, fun w => absurd w (by decide)⟩
theorem m_numberOf {P : jM → Int64 → Prop} {t k : Nat} (h : mI M z) (ht : t < 4) (hr : (zTr z t).1 = true) (hk : k < (zTr z t).2.2.1) (hP : P M ((zTr z t).2.2.2 k)) : JC x jtbM mX12_numberOf d [.ref (x.2.2.2 0), .int (nI t), .int (nI k)] M (jL P) := by
  have tr := h.tr ht
  have h6 := tr.2.2.2.2
  refine b_X12_numberOf ⟨60 * t + k, by omega, by rw [jn60, pk_mul, nI_add], ?_⟩
  rw [tr.2.2.1 hr k hk]
  exact hP
theorem m_wrongRow {P : jM → Int32 → Prop} {t m : Nat} (h : mI M z) (ht : t < 4) (hr : (zTr z t).1 = true) (hm : m < 2 ^ 31) (hP : P M (nI (qRs (zTr z t) m))) : JC x jtbM mX12_wrongRow (d + 1) [.ref (x.2.2.2 0), .int (nI t), .int (nI m)] M (jI P) := by
  have tr := h.tr ht
  have h6 := tr.2.2.2.2
  have e := tr.1
  rw [if_pos hr] at e
  unfold qRs at hP
  refine b_X12_wrongRow ⟨t, ht, rfl, ?_⟩
  rw [e]
  refine pk_le m (zTr z t).2.2.1 (fun q => ?_) (fun q => ?_)
  · rw [if_neg (by omega)] at hP
    refine jloop (fun i (_ : Unit) => JW x jtbM mX12_wrongRow (d + 1) (jI P) 14 [(0, .ref (x.2.2.2 0)), (1, .int (nI t)), (2, .int (nI m)), (3, .int (nI i))] [] M) (fun i _ => ∀ j, j < i → (!qht ((zTr z t).2.2.2 j)) = false) m ?_ ?_ 0 () (Nat.zero_le _) (fun j hj => absurd hj (Nat.not_lt_zero _))
    · rintro _ hI
      refine b_X12_wrongRow_14 (pk_le m m (fun _ => ?_) (fun c => absurd c (by omega)))
      rw [if_neg (by rw [qFst_no hI]; omega)] at hP
      exact hP
    · rintro i _ hi hI ih
      refine b_X12_wrongRow_14 (pk_le m i (fun c => absurd c (by omega)) (fun _ => m_numberOf h ht hr (by omega) (k_mIsIn ?_)))
      rw [show decide ((0 : Int64).toInt ≤ ((zTr z t).2.2.2 i).toInt ∧ ((zTr z t).2.2.2 i).toInt ≤ (99 : Int64).toInt) = qht ((zTr z t).2.2.2 i) from rfl, nI_1]
      refine ⟨fun c => ih () (fun j hj => ?_), fun c => ?_⟩
      · rcases Nat.lt_or_ge j i with q2 | q2
        · exact hI j q2
        · obtain rfl : j = i := by omega
          rw [c]; rfl
      · have e : qFst (fun k => !qht ((zTr z t).2.2.2 k)) m = i := qFst_at hI (by show (!qht ((zTr z t).2.2.2 i)) = true; rw [c]; rfl) hi
        rw [e, if_pos hi] at hP
        exact hP
  · rw [if_pos q] at hP
    exact hP
theorem k_mIsTray {P : jM → Bool → Prop} {a : Int32} (h : P M (qin a 4)) : JC x jtbM mX12_isTray (d + 1) [.ref (x.2.2.2 0), .int a] M (jZ P) := b_X12_isTray (k_mIsInC 4 rfl h)
theorem n_buildAll {P : jM → Bool → Prop} {a : Int32} (h : mI M z) (hP : ∀ M', mI M' (sBuildAll z a).1 → P M' (sBuildAll z a).2) : JC x jtbM mX12_buildAll (d + 2) [.ref (x.2.2.2 0), .int a] M (jZ P) := by
  unfold sBuildAll at hP
  have h25 := h.pl.wf.c25
  refine b_X12_buildAll ?_
  rintro M1 rfl M2 rfl
  have h2 := (h.th 0).st 0
  generalize jrI (jrI M 0 (upd (M.1 0) 1 0)) 0 (upd ((jrI M 0 (upd (M.1 0) 1 0)).1 0) 0 0) = M2 at h2 ⊢
  refine k_mIsTray ⟨fun q => ?_, fun q => ?_⟩
  · rw [if_pos q] at hP
    obtain ⟨t, ht, rfl, e⟩ := qin_0 q (by omega)
    rw [e] at hP
    have tr : mTr M2 t (zTr z t) := h2.tr ht
    have h6 := tr.2.2.2.2
    refine ⟨t, ht, rfl, ?_⟩
    have e2 := tr.1
    by_cases c : (zTr z t).1 = true
    · rw [if_pos c] at hP e2
      rw [e2]
      refine ⟨fun _ => k_mCells h2.pl (m_wrongRow h2 ht c (by have : qc (zP (uSt z 0)) = qc (zP z) := rfl; omega) ?_), fun w => absurd (nI_pos' (by omega)) w⟩
      have h5 := qRs_le (zTr z t) (qc (zP z))
      by_cases r : qRs (zTr z t) (qc (zP z)) = 0
      · rw [if_pos r] at hP
        rw [show qRs (zTr (uSt z 0) t) (qc (zP (uSt z 0))) = 0 from r]
        refine ⟨fun _ => ?_, fun w => absurd (by decide) w⟩
        obtain ⟨r1, r2⟩ := qRs_0 r
        refine jloop (fun i (M' : jM) => JW x jtbM mX12_buildAll (d + 2) (jZ P) 61 [(0, .ref (x.2.2.2 0)), (1, .int (nI t)), (3, .int (nI i))] [] M') (fun i M' => (∀ q, q ≠ 5 → M'.1 q = M2.1 q) ∧ M'.2 = M2.2 ∧ (∀ k, (k < 144 ∨ 144 + i ≤ k) → M'.1 5 k = M2.1 5 k) ∧ ∀ k, k < i → M'.1 5 (144 + k) = nI (qtH (zTr z t) k)) (qc (zP z)) ?_ ?_ 0 M2 (Nat.zero_le _) ⟨fun _ _ => rfl, rfl, fun _ _ => rfl, fun k hk => absurd hk (Nat.not_lt_zero _)⟩
        · rintro M' ⟨g1, g2, g3, g4⟩
          have pl' : mPl (M'.1 5) (zP z) := h2.pl.keep (fun k hk => g3 k (by omega))
          refine b_X12_buildAll_61 (k_mCells pl' (pk_le (qc (zP z)) (qc (zP z)) (fun _ => ?_) (fun c => absurd c (by omega))))
          exact hP _ (mI.setTn (z := uSt z 0) h2 g1 g2 (fun k hk => g3 k (by omega)) (fun c hc => by unfold tcpy; rw [if_pos (show c < qc (zP z) from hc)]; exact g4 c hc) (tcpy_le (qtH_le _) h2.tn.2))
        · rintro i M' hi ⟨g1, g2, g3, g4⟩ ih
          have pl' : mPl (M'.1 5) (zP z) := h2.pl.keep (fun k hk => g3 k (by omega))
          have e3 : M'.2 3 (60 * t + i) = (zTr z t).2.2.2 i := by rw [g2]; exact tr.2.2.1 c i (by omega)
          refine b_X12_buildAll_61 (k_mCells pl' (pk_le (qc (zP z)) i (fun c => absurd c (by omega)) (fun _ => b_X12_numberOf ⟨60 * t + i, by omega, by rw [jn60, pk_mul, nI_add], 144 + i, by omega, by rw [jn144, nI_add], ?_⟩)))
          rintro M3 rfl
          rw [e3, qtH_eq (r2 i hi), nI_1]
          refine ih _ ⟨fun q hq => by rw [jrI_n hq]; exact g1 q hq, g2, fun k hk => by rw [jrI_s, pk_un (by omega)]; exact g3 k (by omega), fun k hk => ?_⟩
          rw [jrI_s]
          by_cases w : k = i
          · rw [w, pk_us]
          · rw [pk_un (by omega)]; exact g4 k (by omega)
      · rw [if_neg r] at hP
        have rn : ¬ nI (qRs (zTr z t) (qc (zP z))) ≤ 0 := nI_nle (by omega) (by omega)
        have r0 : ¬ nI (qRs (zTr z t) (qc (zP z))) = 0 := nI_ne0 (by omega) (by omega)
        refine ⟨fun w => absurd w rn, fun _ => m_no h2 (fun M' hm => ?_)⟩
        have := hP M' hm
        unfold rb at this
        rw [decide_eq_false r0] at this
        exact this
    · rw [if_neg c] at hP e2
      rw [e2]
      exact ⟨fun w => absurd w (by decide), fun _ => m_no h2 hP⟩
  · rw [q] at hP; exact m_no h2 hP
theorem n_largest {P : jM → Int32 → Prop} {a : Int32} (h : mI M z) (hP : ∀ M', mI M' (sLargest z a).1 → P M' (sLargest z a).2) : JC x jtbM mX12_largest (d + 3) [.ref (x.2.2.2 0), .int a] M (jI P) := by
  unfold sLargest at hP
  have h25 := h.pl.wf.c25
  refine b_X12_largest ?_
  rintro M1 rfl M2 rfl
  have h2 := (h.th 0).st 0
  refine k_mIsSet h2.pl ⟨fun c => ?_, fun c => ?_⟩
  · rw [if_pos (show qin a (2 ^ qn (zP z)) = true from c)] at hP
    obtain ⟨k, hk, rfl, e2⟩ := qin_0 c (pow31 h2.pl.wf)
    rw [e2] at hP
    refine k_mKeep (set64 h2.pl.wf hk) h2 (fun M5 h5 _ g4 _ => ⟨fun q => ?_, fun q => ?_⟩)
    · rw [show pCan (zP z) k = true from q] at hP
      have g4' : mCp M5 (zP z) (pCp (zP z) k) := g4
      have pl5 : mPl (M5.1 5) (zP z) := h5.pl
      refine jloop (fun i (M' : jM) => JW x jtbM mX12_largest (d + 3) (jI P) 45 [(0, .ref (x.2.2.2 0)), (2, .int (nI i))] [] M') (fun i M' => (∀ q, q ≠ 5 → M'.1 q = M5.1 q) ∧ M'.2 = M5.2 ∧ (∀ k, (k < 144 ∨ 144 + i ≤ k) → M'.1 5 k = M5.1 5 k) ∧ ∀ c, c < i → M'.1 5 (144 + c) = nI (pCp (zP z) k c)) (qc (zP z)) ?_ ?_ 0 M5 (Nat.zero_le _) ⟨fun _ _ => rfl, rfl, fun _ _ => rfl, fun k hk => absurd hk (Nat.not_lt_zero _)⟩
      · rintro M' ⟨g1, g2, g3, g5⟩
        have pl' : mPl (M'.1 5) (zP z) := pl5.keep (fun k hk => g3 k (by omega))
        have cap9 : ∀ c, tcpy (pCp (zP z) k) (zT z) (qc (zP z)) c ≤ 99 := tcpy_le g4'.2 h5.tn.2
        have I' : mI M' (uTn (uSt z 0) (tcpy (pCp (zP z) k) (zT z) (qc (zP z)))) := mI.setTn (z := uSt z 0) h5 g1 g2 (fun k hk => g3 k (by omega)) (fun c hc => by unfold tcpy; rw [if_pos (show c < qc (zP z) from hc)]; exact g5 c hc) cap9
        refine b_X12_largest_45 (k_mCells pl' (pk_le (qc (zP z)) (qc (zP z)) (fun _ => k_mStoneNow (f := tcpy (pCp (zP z) k) (zT z) (qc (zP z))) pl' I'.tn ?_) (fun c => absurd c (by omega))))
        rw [show qStone (zP z) (tcpy (pCp (zP z) k) (zT z) (qc (zP z))) (qc (zP z)) = qStone (zP z) (pCp (zP z) k) (qc (zP z)) from qStone_cong (fun c hc => by unfold tcpy; exact if_pos hc)]
        exact hP _ I'
      · rintro i M' hi ⟨g1, g2, g3, g5⟩ ih
        have pl' : mPl (M'.1 5) (zP z) := pl5.keep (fun k hk => g3 k (by omega))
        refine b_X12_largest_45 (k_mCells pl' (pk_le (qc (zP z)) i (fun c => absurd c (by omega)) (fun _ => ⟨i, by omega, rfl, 144 + i, by omega, by rw [jn144, nI_add], ?_⟩)))
        rintro M6 rfl
        rw [g1 9 (by omega), g4'.1 i hi, nI_1]
        refine ih _ ⟨fun q hq => by rw [jrI_n hq]; exact g1 q hq, g2, fun k hk => by rw [jrI_s, pk_un (by omega)]; exact g3 k (by omega), fun c hc => ?_⟩
        rw [jrI_s]
        by_cases w : c = i
        · rw [w, pk_us]
        · rw [pk_un (by omega)]; exact g5 c (by omega)
    · rw [show pCan (zP z) k = false from q] at hP; exact m_refuse h5 hP
  · rw [show qin a (2 ^ qn (zP z)) = false from c] at hP; exact m_refuse h2 hP
end FEE
