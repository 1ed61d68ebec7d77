theorem mI.setBl {N N' : jM} {z : qZ} {f : Nat → Int32} (h : mI N z) (h1 : ∀ q, q ≠ 0 → q ≠ 16 → N'.1 q = N.1 q) (h2 : N'.2 = N.2) (h0 : ∀ k, k ≠ 49 → N'.1 0 k = N.1 0 k) (hc : N'.1 0 49 = 1) (hf : ∀ k, k < 3 → N'.1 16 k = f k ∧ ¬ f k = -1) : mI N' (uBl z f) := by
  obtain ⟨a1, a2, a3, a4, a5, a6, a7, a8, a9, a10, a11, a12, a13, a14, a15⟩ := h
  obtain ⟨k1, k2, k3, k4, k5, k6, k7⟩ := id a15
  exact ⟨by rw [h0 0 (by omega)]; exact a1, by rw [h2]; exact a2, by rw [h2]; exact a3, fun t ht => (a4 t ht).keep (by rw [h1 2 (by omega) (by omega)]) (by rw [h1 1 (by omega) (by omega)]) (fun _ _ => by rw [h2]), by rw [h0 8 (by omega)]; exact a5, fun k hk => by rw [h1 4 (by omega) (by omega)]; exact a6 k hk, by rw [h0 10 (by omega)]; exact a7, by rw [h0 11 (by omega)]; exact a8, a9.keep k3 (fun k _ => by rw [h1 5 (by omega) (by omega)]) (fun k _ => by rw [h2]), by rw [h0 25 (by omega)]; exact a10, fun m hm => (a11 m hm).keep (k5 m hm) (fun k _ => by rw [h1 5 (by omega) (by omega)]) (fun k _ => by rw [h2]), by rw [h0 39 (by omega)]; exact a12, fun k hk => by rw [h1 13 (by omega) (by omega)]; exact a13 k hk, Or.inr ⟨hc, hf⟩, a15⟩
section MB3
variable {x : jX} {d : Nat} {M : jM} {z : qZ}
theorem mI.bs (h : mI M z) (ho : ¬ (zNw z).2.2.1 0 = 0) : ∃ N, mBs z N := by
  obtain ⟨-, -, hok, -⟩ := h.ok
  have hm := (mWd0 h.nw).2.2.2
  have h1 := hm.2.1.resolve_left ho
  obtain ⟨n, d1, d2, d3, d4, d5, d6⟩ := hok h1
  exact ⟨n, h1, d2, d1, d3, d4, d5, d6⟩
theorem m_run {P : jM → Prop} {N seed : Nat} (h : mI M z) (B : mBs z N) (hs : seed < 65536) (hP : ∀ M', mMs z M M' (qRun (zP z) (zNw z).2.2 seed (zT z)) → P M') : JC x jtbM mX12_run (d + 127) [.ref (x.2.2.2 0), .int (nI seed)] M (jV P) := by
  have hN60 := B.2.2.1
  have eN : ((zNw z).2.2.1 2).toNatClampNeg = N := by rw [B.2.1, nI_clamp (by omega)]
  unfold qRun at hP
  rw [eN] at hP
  refine b_X12_run ?_
  rintro M1 rfl M2 rfl M3 rfl M4 rfl M5 rfl M6 e6
  have h6 : mMs z M M6 (qSt0 (zT z) seed) := by
    rw [e6]
    refine ⟨?_, ?_, ?_, ?_, ?_, ?_, ?_, ?_, ⟨h.tn.2, hs, Nat.zero_le _, Nat.zero_le _, Nat.zero_le _⟩⟩
    · exact (((((h.keep (mSame.slot (by unfold mScI; omega))).keep (mSame.slot (by unfold mScI; omega))).keep (mSame.slot (by unfold mScI; omega))).keep (mSame.slot (by unfold mScI; omega))).keep (mSame.slot (by unfold mScI; omega))).keep (mSame.slot (by unfold mScI; omega))
    · exact (((((jsame.I (Or.inl rfl)).tr (jsame.I (Or.inl rfl))).tr (jsame.I (Or.inl rfl))).tr (jsame.I (Or.inl rfl))).tr (jsame.I (Or.inl rfl))).tr (jsame.I (Or.inl rfl))
    · simp (disch := omega) only [jrI_s, pk_us, pk_un]; rfl
    · simp (disch := omega) only [jrI_s, pk_us, pk_un]; rfl
    · simp (disch := omega) only [jrI_s, pk_us, pk_un]; rfl
    · simp (disch := omega) only [jrI_s, pk_us, pk_un]; rfl
    · simp (disch := omega) only [jrI_s, pk_us, pk_un]; rfl
    · simp (disch := omega) only [jrI_s, pk_us, pk_un]; rfl
  clear e6
  have e170 : M6.1 5 170 = nI (qStp (zNw z).2.2 N) := by
    rw [(h6.or.2.2 B.1).1]; exact B.2.2.2.1
  rw [e170]
  refine b_X12_doAll (d := d + 125) ?_
  exact m_exec B N (D := d + 120) 0 N (qSt0 (zT z) seed) M6 (by omega) (by omega) (bk_all B.2.2.2.2.2.1) h6 hP
theorem n_built {P : jM → Int32 → Prop} {a : Int32} (h : mI M z) (hP : ∀ M', mI M' (sBuilt z a).1 → P M' (sBuilt z a).2) : JC x jtbM mX12_built (d + 128) [.ref (x.2.2.2 0), .int a] M (jI P) := by
  unfold sBuilt at hP
  refine b_X12_built ?_
  rintro M1 rfl M2 rfl
  have h2 := (h.th 0).st 0
  generalize jrI (jrI M 0 (upd (M.1 0) 1 0)) 0 (upd ((jrI M 0 (upd (M.1 0) 1 0)).1 0) 0 0) = M2 at h2 ⊢
  refine k_mIsInC 10000 rfl ⟨fun q => ?_, fun q => by rw [q] at hP; exact m_refuse h2 hP⟩
  rw [if_pos q] at hP
  obtain ⟨seed, hs, rfl, e⟩ := qin_0 q (by omega)
  rw [e] at hP
  have e169 : M2.1 5 169 = (zNw z).2.2.1 0 := (mWd0 h2.nw).2.2.2.1
  rw [e169]
  refine ⟨fun ho => ?_, fun ho => by rw [if_pos ho] at hP; exact m_refuse h2 hP⟩
  rw [if_neg ho] at hP
  obtain ⟨N, B⟩ := h2.bs (z := uSt z 0) ho
  refine m_run (z := uSt z 0) h2 B (by omega) (fun M4 g => ?_)
  have fl : rF (qRun (zP z) (zNw z).2.2 seed (zT z)) ≤ 1 := rF_le _ _ _ _ (Nat.zero_le _)
  have eR : qRun (zP (uSt z 0)) (zNw (uSt z 0)).2.2 seed (zT (uSt z 0)) = qRun (zP z) (zNw z).2.2 seed (zT z) := rfl
  rw [eR] at g
  generalize qRun (zP z) (zNw z).2.2 seed (zT z) = r at *
  obtain ⟨g1, g2, g3, g4, g5, g6, g7, g8, g9⟩ := g
  obtain ⟨b1, b2, b3, b4, b5⟩ := g9
  intro M5 e5 M6 e6 M7 e7 M8 e8
  have x5 : M5.1 0 = M4.1 0 := by rw [e5, jrI_n (by omega)]
  have x6 : M6.1 0 = M4.1 0 := by rw [e6, jrI_n (by omega), x5]
  have x7 : M7.1 0 = M4.1 0 := by rw [e7, jrI_n (by omega), x6]
  have h8 : mI M8 (uBl (uTn (uSt z 0) (rT r)) (three (nI (rL r)) (nI (rK r)) (nI (rF r)))) := by
    refine g1.setBl (fun q q0 q16 => ?_) ?_ (fun k hk => ?_) ?_ (fun k hk => ?_)
    · rw [e8, jrI_n q0, e7, jrI_n q16, e6, jrI_n q16, e5, jrI_n q16]
    · rw [e8, e7, e6, e5]; rfl
    · rw [e8, jrI_s, pk_un hk, x7]
    · rw [e8, jrI_s, pk_us]
    · rw [e8, jrI_n (by omega), e7, jrI_s]
      unfold three
      rcases (show k = 0 ∨ k = 1 ∨ k = 2 by omega) with rfl | rfl | rfl
      · rw [pk_un (by omega), e6, jrI_s, pk_un (by omega), e5, jrI_s, pk_us]
        exact ⟨g5, nI_ne1 (by omega)⟩
      · rw [pk_un (by omega), e6, jrI_s, pk_us, x5]
        exact ⟨g6, nI_ne1 (by omega)⟩
      · rw [pk_us, x6]
        exact ⟨g7, nI_ne1 (by omega)⟩
  rw [show M8.1 0 43 = nI (rS r) by rw [e8, jrI_s, pk_un (by omega), x7]; exact g4]
  exact hP M8 h8
theorem uv_iff {pl : qP} {t : Nat → Nat} : ¬ qUv pl t < qn pl ↔ ∀ v, v < qn pl → (qk pl).testBit v = true → ¬ qUs pl t v < qSt pl v := by
  unfold qUv
  rw [qFst_lt]
  constructor
  · intro h v hv hk u
    exact h ⟨v, hv, by rw [hk, decide_eq_true u]; rfl⟩
  · rintro h ⟨v, hv, e⟩
    rw [Bool.and_eq_true, decide_eq_true_iff] at e
    exact h v hv e.1 e.2
theorem n_tally {P : jM → Int32 → Prop} {a m : Int32} (h : mI M z) (hP : ∀ M', mI M' (sTally z a m).1 → P M' (sTally z a m).2) : JC x jtbM mX12_tally (d + 128) [.ref (x.2.2.2 0), .int a, .int m] M (jI P) := by
  unfold sTally at hP
  have w := h.pl.wf
  have c25 := w.c25
  have h6 := w.2.2.2.1
  have t9 := h.tn.2
  refine b_X12_tally ?_
  rintro M1 rfl M2 rfl
  have h2 := (h.th 0).st 0
  generalize jrI (jrI M 0 (upd (M.1 0) 1 0)) 0 (upd ((jrI M 0 (upd (M.1 0) 1 0)).1 0) 0 0) = M2 at h2 ⊢
  have no : (qrg m 1 30 && decide (0 ≤ a.toInt ∧ a.toInt + m.toInt ≤ 10000)) = false → JC x jtbM mX12_refuse (d + 127) [.ref (x.2.2.2 0), .int (5 : Int32)] M2 (jI fun M2 r1 => P M2 r1) := fun e => by
    rw [e] at hP; exact m_refuse h2 hP
  refine k_mIsIn ?_
  rw [show decide ((1 : Int64).toInt ≤ m.toInt64.toInt ∧ m.toInt64.toInt ≤ (30 : Int64).toInt) = qrg m 1 30 by rw [Int32.toInt_toInt64]; rfl]
  refine ⟨fun u => no (by rw [u]; rfl), fun u => ?_⟩
  obtain ⟨many, m1, m2, rfl, e2⟩ := qrg_t u (by omega)
  have t2 := nI_toInt (n := many) (by omega)
  refine k_mIsIn ?_
  rw [show decide ((0 : Int64).toInt ≤ a.toInt64.toInt ∧ a.toInt64.toInt ≤ (((10000 : Int32) - nI many).toInt64).toInt) = decide (0 ≤ a.toInt ∧ a.toInt + (nI many).toInt ≤ 10000) by
    rw [Int32.toInt_toInt64, Int32.toInt_toInt64, jn10000, pk_sub_toInt (by omega) (by omega), t2]
    refine decide_eq_decide.mpr ?_
    show (0 : Int) ≤ _ ∧ _ ↔ _
    omega]
  refine ⟨fun v => ?_, fun v => no (by rw [v, Bool.and_false])⟩
  have v' := of_decide_eq_true v
  rw [t2] at v'
  obtain ⟨seed, hsd, rfl, e1⟩ : ∃ seed, seed + many ≤ 10000 ∧ a = nI seed ∧ a.toNatClampNeg = seed := by
    have e : a = nI a.toInt.toNat := by
      apply Int32.toInt_inj.mp
      rw [nI_toInt (by omega)]
      omega
    exact ⟨a.toInt.toNat, by omega, e, by rw [e, nI_clamp (by omega), ← e]⟩
  rw [u, v, if_pos (by rfl), e1, e2] at hP
  have e169 : M2.1 5 169 = (zNw z).2.2.1 0 := (mWd0 h2.nw).2.2.2.1
  rw [e169]
  refine ⟨fun ho => ?_, fun ho => by rw [if_pos ho] at hP; exact m_refuse h2 hP⟩
  rw [if_neg ho] at hP
  obtain ⟨N, B⟩ := h2.bs (z := uSt z 0) ho
  refine jloop (fun i (M3 : jM) => JW x jtbM mX12_tally (d + 128) (jI P) 63 [(0, .ref (x.2.2.2 0)), (1, .int (nI seed)), (2, .int (nI many)), (3, .int (nI i))] [] M3) (fun i M3 => mI M3 (uSt z 0) ∧ ∀ c, c < i → M3.1 17 c = nI (zT z c)) (qc (zP z)) ?_ ?_ 0 M2 (Nat.zero_le _) ⟨h2, fun c hc => absurd hc (Nat.not_lt_zero _)⟩
  · rintro M3 ⟨g, r17⟩
    refine b_X12_tally_63 (k_mCells (pl := zP z) g.pl (pk_le (qc (zP z)) (qc (zP z)) (fun _ => ?_) (fun c => absurd c (by omega))))
    refine jloop2 (fun k (M4 : jM) (s : Int32) => JW x jtbM mX12_tally (d + 128) (jI P) 98 [(0, .ref (x.2.2.2 0)), (1, .int (nI seed)), (2, .int (nI many)), (3, .int s), (4, .int (nI k))] [] M4) (fun k M4 s => mI M4 (uSt z 0) ∧ (∀ c, c < qc (zP z) → M4.1 17 c = nI (zT z c)) ∧ s = nI (qTal (zP z) (zNw z).2.2 seed (zT z) k)) many ?_ ?_ 0 M3 0 (Nat.zero_le _) ⟨g, r17, rfl⟩
    · rintro M4 _ ⟨g4, _, rfl⟩
      exact b_X12_tally_98 (pk_le many many (fun _ => hP _ g4) (fun c => absurd c (by omega)))
    · rintro k M4 _ hk ⟨g4, r4, rfl⟩ ih
      refine b_X12_tally_98 (pk_le many k (fun c => absurd c (by omega)) (fun _ => ?_))
      rw [nI_add]
      refine m_run (z := uSt z 0) g4 B (by omega) (fun M5 g5 => ?_)
      have eR : qRun (zP (uSt z 0)) (zNw (uSt z 0)).2.2 (seed + k) (zT (uSt z 0)) = qRun (zP z) (zNw z).2.2 (seed + k) (zT z) := rfl
      rw [eR] at g5
      have stp : qTal (zP z) (zNw z).2.2 seed (zT z) (k + 1) = qTal (zP z) (zNw z).2.2 seed (zT z) k + (if qUv (zP z) (rT (qRun (zP z) (zNw z).2.2 (seed + k) (zT z))) < qn (zP z) then 0 else 1) := rfl
      generalize qRun (zP z) (zNw z).2.2 (seed + k) (zT z) = r at *
      obtain ⟨f1, f2, _, _, _, _, _, _, f9⟩ := g5
      have r5 : ∀ c, c < qc (zP z) → M5.1 17 c = nI (zT z c) := fun c hc => by rw [(f2 17 (by omega)).1]; exact r4 c hc
      have pl5 : mPl (M5.1 5) (zP z) := f1.pl
      have tn5 : mTn (M5.1 5) (zP z) (rT r) := f1.tn
      have rest : ∀ s : Int32, s = nI (qTal (zP z) (zNw z).2.2 seed (zT z) (k + 1)) → JW x jtbM mX12_tally (d + 128) (jI P) 185 [(0, .ref (x.2.2.2 0)), (1, .int (nI seed)), (2, .int (nI many)), (3, .int s), (4, .int (nI k)), (6, .int (0 : Int32))] [] M5 := fun s es => by
        refine jloop (fun i (M6 : jM) => JW x jtbM mX12_tally (d + 128) (jI P) 185 [(0, .ref (x.2.2.2 0)), (1, .int (nI seed)), (2, .int (nI many)), (3, .int s), (4, .int (nI k)), (6, .int (nI i))] [] M6) (fun i M6 => jsame (fun q => q = 5) M5 M6 ∧ M6.2 = M5.2 ∧ (∀ c, c < i → M6.1 5 (144 + c) = nI (zT z c)) ∧ ∀ j, (j < 144 ∨ 144 + i ≤ j) → M6.1 5 j = M5.1 5 j) (qc (zP z)) ?_ ?_ 0 M5 (Nat.zero_le _) ⟨jsame.rf, rfl, fun c hc => absurd hc (Nat.not_lt_zero _), fun _ _ => rfl⟩
        · rintro M6 ⟨k1, k2, k3, k4⟩
          have h6' : mI M6 (uSt z 0) := mI.setTn (z := uTn (uSt z 0) (rT r)) (f := zT z) f1 (fun q hq => (k1 q hq).1) k2 (fun j hj => k4 j (by omega)) k3 t9
          refine b_X12_tally_185 (k_mCells (pl := zP z) h6'.pl (pk_le (qc (zP z)) (qc (zP z)) (fun _ => ?_) (fun c => absurd c (by omega))))
          rw [nI_1]
          exact ih M6 _ ⟨h6', fun c hc => by rw [(k1 17 (by omega)).1]; exact r5 c hc, es⟩
        · rintro i M6 hi ⟨k1, k2, k3, k4⟩ ihi
          have pl6 : mPl (M6.1 5) (zP z) := pl5.keep (fun j hj => k4 j (by omega))
          refine b_X12_tally_185 (k_mCells pl6 (pk_le (qc (zP z)) i (fun c => absurd c (by omega)) (fun _ => ⟨i, by omega, rfl, 144 + i, by omega, by rw [jn144, nI_add], ?_⟩)))
          intro M7 e7
          rw [nI_1]
          refine ihi M7 ⟨by rw [e7]; exact k1.tr (jsame.I rfl), by rw [e7]; exact k2, fun c hc => ?_, fun j hj => ?_⟩
          · rw [e7, jrI_s]
            by_cases q : c = i
            · rw [q, pk_us, (k1 17 (by omega)).1]; exact r5 i hi
            · rw [pk_un (by omega)]; exact k3 c (by omega)
          · rw [e7, jrI_s, pk_un (by omega)]; exact k4 j (by omega)
      refine jloop (fun v (b : Bool) => JW x jtbM mX12_tally (d + 128) (jI P) 118 [(0, .ref (x.2.2.2 0)), (1, .int (nI seed)), (2, .int (nI many)), (3, .int (nI (qTal (zP z) (zNw z).2.2 seed (zT z) k))), (4, .int (nI k)), (5, .int (jb b)), (6, .int (nI v))] [] M5) (fun v b => b = true ↔ ∀ v', v' < v → (qk (zP z)).testBit v' = true → ¬ qUs (zP z) (rT r) v' < qSt (zP z) v') (qn (zP z)) ?_ ?_ 0 true (Nat.zero_le _) ⟨fun _ v hv => absurd hv (Nat.not_lt_zero _), fun _ => rfl⟩
      · rintro b hb
        have ub : b = true ↔ ¬ qUv (zP z) (rT r) < qn (zP z) := hb.trans uv_iff.symm
        refine b_X12_tally_118 ?_
        rw [pl5.n]
        refine pk_le (qn (zP z)) (qn (zP z)) (fun _ => ?_) (fun c => absurd c (by omega))
        rw [jb_0]
        refine ⟨fun c => rest _ ?_, fun c => rest _ ?_⟩
        · have : qUv (zP z) (rT r) < qn (zP z) := Classical.byContradiction (fun n => by
            have := ub.mpr n
            rw [c] at this
            cases this)
          rw [stp, if_pos this]
          show _ + nI 0 = _
          rw [nI_add]
        · have : b = true := by revert c; cases b <;> simp
          rw [stp, if_neg (ub.mp this)]
          show _ + nI 1 = _
          rw [nI_add]
      · rintro v b hv hb ihv
        refine b_X12_tally_118 ?_
        rw [pl5.n]
        refine pk_le (qn (zP z)) v (fun c => absurd c (by omega)) (fun _ => ?_)
        rw [jb_0, nI_1]
        have ext : b = true → ((qk (zP z)).testBit v = true → ¬ qUs (zP z) (rT r) v < qSt (zP z) v) → (true = true ↔ ∀ v', v' < v + 1 → (qk (zP z)).testBit v' = true → ¬ qUs (zP z) (rT r) v' < qSt (zP z) v') := fun e g => by
          refine ⟨fun _ v' h1 h2 => ?_, fun _ => rfl⟩
          rcases Nat.lt_or_ge v' v with u | u
          · exact hb.mp e v' u h2
          · obtain rfl : v' = v := by omega
            exact g h2
        refine ⟨fun c => ihv false ⟨fun n => (by cases n), fun n => ?_⟩, fun c => ⟨84 + v, by omega, by rw [jn84, nI_add], ?_⟩⟩
        · have := hb.mpr (fun v' h1 => n v' (by omega))
          rw [c] at this
          cases this
        · have bt : b = true := by revert c; cases b <;> simp
          rw [pl5.has hv, jb_0]
          refine ⟨fun q => ihv true (ext bt (fun n => by rw [q] at n; cases n)), fun q => ?_⟩
          have qt : (qk (zP z)).testBit v = true := by revert q; cases (qk (zP z)).testBit v <;> simp
          refine m_seesSame pl5 tn5 hv ?_
          rw [qt, Bool.true_and]
          refine ⟨fun e => ihv false ⟨fun n => (by cases n), fun n => ?_⟩, fun e => ihv true (ext bt (fun _ => of_decide_eq_true e))⟩
          exact absurd (n v (by omega) qt) (of_decide_eq_false e)
  · rintro i M3 hi ⟨g, r17⟩ ih
    refine b_X12_tally_63 (k_mCells (pl := zP z) g.pl (pk_le (qc (zP z)) i (fun c => absurd c (by omega)) (fun _ => ⟨144 + i, by omega, by rw [jn144, nI_add], i, by omega, rfl, ?_⟩)))
    intro M4 e4
    rw [nI_1]
    refine ih M4 ⟨?_, fun c hc => ?_⟩
    · rw [e4]; exact g.keep (mSame.row ((jsame.I (S := fun q => q = 17) rfl).mono (fun q hq => by unfold mScr; omega)))
    · rw [e4, jrI_s]
      by_cases q : c = i
      · rw [q, pk_us]; exact g.tn.1 i hi
      · rw [pk_un q]; exact r17 c (by omega)
end MB3
