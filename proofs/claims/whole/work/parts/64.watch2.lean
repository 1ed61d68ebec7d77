section WA2
variable {x : jX} {d : Nat} {M : jM} {z : qZ}
theorem o_watchers {P : jM → Int32 → Prop} {a m : Int32} (h : cI M z) (hP : ∀ M', cI M' (sWatchers z a m).1 → P M' (sWatchers z a m).2) : JC x jtbC mX11_watchers (d + 6) [.ref (x.2.2.2 0), .int a, .int m] M (jI P) := by
  unfold sWatchers at hP
  have w := h.pl.wf
  have h25 := w.c25
  have h6 := w.2.2.2.1
  have h64 : 2 ^ qn (zP z) ≤ 64 := Nat.pow_le_pow_right (by decide) h6
  refine b_X11_watchers ?_
  rw [h.pl.c]
  refine k_told (lo := 2) (hi := 4) (e := qc (zP z)) (by omega) (by omega) h25 h ⟨fun c => ?_, fun c => by rw [if_neg c] at hP; exact c_refused h hP⟩
  rw [if_pos c] at hP
  obtain ⟨t, many, ht, rfl, e1, m1, m2, rfl, e2, tt, r1, r2⟩ := qTold_0 (by omega) c
  rw [e1, e2] at hP
  refine ⟨t, ht, rfl, b_X0_fewestWatchers (k_tellRows h ht m1 m2 r1 r2 (fun M1 L h1 hL rows => ?_))⟩
  have ec : (nI many * (nI many - 1)) / 2 = nI (qCn many many) ∧ qCn many many < 31 := by
    rcases (show many = 2 ∨ many = 3 ∨ many = 4 by omega) with rfl | rfl | rfl <;> decide +kernel
  rw [ec.1]
  have hc31 := ec.2
  clear ec
  refine jloop (fun v (s : Int32) => JW x jtbC mX0_fewestWatchers (d + 5) (jI fun M2 r2 => (¬ r2 = (-1 : Int32) → JC x jtbC mX11_answered (d + 5) [.ref (x.2.2.2 0), .int r2] M2 (jI fun M3 r3 => P M3 r3)) ∧ (r2 = (-1 : Int32) → JC x jtbC mX11_refused (d + 5) [.ref (x.2.2.2 0), .int (9 : Int32)] M2 (jI fun M4 r4 => P M4 r4))) 22 [(0, .ref (x.2.2.2 62)), (1, .ref (x.2.2.2 30)), (4, .int (nI (qCn many many))), (5, .int s), (6, .int (nI v))] [] M1) (fun v s => s = oI (qBest (qWt (zP z) (zTr z t) many) v)) (2 ^ qn (zP z)) ?_ ?_ 0 (-1) (Nat.zero_le _) rfl
  · rintro _ rfl
    refine b_X0_fewestWatchers_22 ?_
    rw [h1.pl.n, nI_shl1 _ (by omega)]
    refine pk_le (2 ^ qn (zP z)) (2 ^ qn (zP z)) (fun _ => ?_) (fun c => absurd c (by omega))
    cases e : qBest (qWt (zP z) (zTr z t) many) (2 ^ qn (zP z)) with
    | none =>
      rw [e] at hP
      exact ⟨fun c => absurd rfl c, fun _ => c_refused h1 hP⟩
    | some b =>
      rw [e] at hP
      have := (qBest_lt e).1
      exact ⟨fun _ => c_answered h1 hP, fun c => absurd c (nI_ne1 (by omega))⟩
  · rintro v _ hv rfl ih
    have try_ : (∀ u, qBest (qWt (zP z) (zTr z t) many) v = some u → qPop v < qPop u) → JW x jtbC mX0_fewestWatchers (d + 5) (jI fun M2 r2 => (¬ r2 = (-1 : Int32) → JC x jtbC mX11_answered (d + 5) [.ref (x.2.2.2 0), .int r2] M2 (jI fun M3 r3 => P M3 r3)) ∧ (r2 = (-1 : Int32) → JC x jtbC mX11_refused (d + 5) [.ref (x.2.2.2 0), .int (9 : Int32)] M2 (jI fun M4 r4 => P M4 r4))) 57 [(0, .ref (x.2.2.2 62)), (1, .ref (x.2.2.2 30)), (4, .int (nI (qCn many many))), (5, .int (oI (qBest (qWt (zP z) (zTr z t) many) v))), (6, .int (nI v))] [.int (1 : Int32)] M1 := fun q => by
      refine b_X0_fewestWatchers_57 ⟨fun c => absurd c (by decide), fun _ => ?_⟩
      refine k_couplesTold (T := qTv (zP z) (zTr z t) L (qCn many many)) h6 hv rows ?_
      have p1 : 1 ≤ 2 ^ qCn many many := Nat.one_le_two_pow
      have p2 : 2 ^ qCn many many < 2 ^ 31 := Nat.pow_lt_pow_right (by decide) hc31
      have lt : qOr (qTv (zP z) (zTr z t) L (qCn many many)) v 6 < 2 ^ qCn many many := by
        apply Nat.lt_pow_two_of_testBit
        intro i hi
        apply Bool.eq_false_iff.mpr
        intro c
        rw [qOr_bit] at c
        obtain ⟨u, _, _, h3⟩ := c
        unfold qTv at h3
        rw [qSet_bit, decide_eq_false (by omega)] at h3
        cases h3
      rw [nI_shl1 _ hc31, jn1, pk_sub p1, nI_eq (by omega) (by omega), watch_iff w hv hL, nI_add]
      refine ⟨fun c => ih _ ?_, fun c => ih _ ?_⟩
      · rw [qBest_no (Bool.eq_false_iff.mpr c)]
      · rw [qBest_take c q]; rfl
    refine b_X0_fewestWatchers_22 ?_
    rw [h1.pl.n, nI_shl1 _ (by omega)]
    refine pk_le (2 ^ qn (zP z)) v (fun c => absurd c (by omega)) (fun _ => ?_)
    cases e : qBest (qWt (zP z) (zTr z t) many) v with
    | none =>
      rw [e] at try_
      exact ⟨fun _ => try_ (fun t c => by cases c), fun c => absurd rfl c⟩
    | some b =>
      have hb := (qBest_lt e).1
      rw [e] at try_
      refine ⟨fun c => absurd c (nI_ne1 (by omega)), fun _ => k_bitCount (n := v) (by omega) (k_bitCount (n := b) (by omega) ?_)⟩
      have p1 := fb_ct_le v.testBit 32
      have p2 := fb_ct_le b.testBit 32
      refine pk_le (qPop b) (qPop v) (fun c => ?_) (fun c => try_ (fun t ht => by cases ht; exact c)) rfl rfl (Nat.lt_of_le_of_lt p2 (by decide)) (Nat.lt_of_le_of_lt p1 (by decide))
      refine b_X0_fewestWatchers_57 ⟨fun _ => ?_, fun c => absurd rfl c⟩
      rw [nI_1]
      exact ih _ (by rw [qBest_more e c, e])
theorem m_parts {P : jM → Bool → Prop} {t a b v many : Nat} (h : mI M z) (ht : t < 4) (hr : (zTr z t).1 = true) (hm4 : many ≤ 4) (ha : a < many) (hb : b < many) (hv : v < qn (zP z)) (hl : many * qc (zP z) ≤ (zTr z t).2.2.1) (hH : ∀ j, j < many * qc (zP z) → qht ((zTr z t).2.2.2 j) = true) (hP : P M (qTe (zP z) (zTr z t) a b v)) : JC x jtbM mX12_parts (d + 2) [.ref (x.2.2.2 0), .int (nI t), .int (nI a), .int (nI b), .int (nI v)] M (jZ P) := by
  have w := h.pl.wf
  have h25 := w.c25
  have h6 := w.2.2.2.1
  have h9 := qSt_le w v
  have s8 := w.2.2.2.2.2.2.2.2.2.1 v
  have rowlen : ∀ a, a < many → a * qc (zP z) + qc (zP z) ≤ many * qc (zP z) := fun a ha => by
    have : (a + 1) * qc (zP z) ≤ many * qc (zP z) := Nat.mul_le_mul_right _ ha
    rw [Nat.add_mul, Nat.one_mul] at this
    exact this
  have ra := rowlen a ha
  have rb := rowlen b hb
  have hp := h.pl
  refine b_X12_parts ?_
  refine jloop (fun i (_ : Unit) => JW x jtbM mX12_parts (d + 2) (jZ P) 3 [(0, .ref (x.2.2.2 0)), (1, .int (nI t)), (2, .int (nI a)), (3, .int (nI b)), (4, .int (nI v)), (5, .int (nI i))] [] M) (fun i _ => ∀ j, j < i → decide (¬ qG (qw (zP z)) (qh (zP z)) (qSide (zP z) v) j (qRow (zP z) (zTr z t) a) (qc (zP z)) = qG (qw (zP z)) (qh (zP z)) (qSide (zP z) v) j (qRow (zP z) (zTr z t) b) (qc (zP z))) = false) (qSt (zP z) v) ?_ ?_ 0 () (Nat.zero_le _) (fun j hj => absurd hj (Nat.not_lt_zero _))
  · rintro _ hI
    refine b_X12_parts_3 (k_mStrips hp hv (pk_le (qSt (zP z) v) (qSt (zP z) v) (fun _ => ?_) (fun c => absurd c (by omega))))
    have : qTe (zP z) (zTr z t) a b v = false := decide_eq_false (by
      have : qAp (zP z) (qRow (zP z) (zTr z t) a) (qRow (zP z) (zTr z t) b) v = qSt (zP z) v := qFst_no hI
      omega)
    rw [this] at hP
    exact hP
  · rintro i _ hi hI ih
    refine b_X12_parts_3 (k_mStrips hp hv (pk_le (qSt (zP z) v) i (fun c => absurd c (by omega)) (fun _ => k_mCells hp ⟨78 + v, by omega, by rw [jn78, nI_add], ?_⟩)))
    rw [hp.side hv, pk_mul]
    refine m_seenIn h ht hr s8 (by omega) (by omega) (fun k hk => hH _ (by omega)) (k_mCells hp ?_)
    rw [hp.side hv, pk_mul]
    refine m_seenIn h ht hr s8 (by omega) (by omega) (fun k hk => hH _ (by omega)) ?_
    show (nI (qG (qw (zP z)) (qh (zP z)) (qSide (zP z) v) i (qRow (zP z) (zTr z t) a) (qc (zP z))) = nI (qG (qw (zP z)) (qh (zP z)) (qSide (zP z) v) i (qRow (zP z) (zTr z t) b) (qc (zP z))) → _) ∧ (¬ nI (qG (qw (zP z)) (qh (zP z)) (qSide (zP z) v) i (qRow (zP z) (zTr z t) a) (qc (zP z))) = nI (qG (qw (zP z)) (qh (zP z)) (qSide (zP z) v) i (qRow (zP z) (zTr z t) b) (qc (zP z))) → _)
    have q1 := qG_le (w := qw (zP z)) (h := qh (zP z)) (side := qSide (zP z) v) (s := i) (qRow_le (zP z) (zTr z t) a) (qc (zP z))
    have q2 := qG_le (w := qw (zP z)) (h := qh (zP z)) (side := qSide (zP z) v) (s := i) (qRow_le (zP z) (zTr z t) b) (qc (zP z))
    rw [nI_eq (by omega) (by omega), nI_1]
    refine ⟨fun c => ih () (fun j hj => ?_), fun c => ?_⟩
    · rcases Nat.lt_or_ge j i with q | q
      · exact hI j q
      · obtain rfl : j = i := by omega
        exact decide_eq_false (fun n => n c)
    · have : qTe (zP z) (zTr z t) a b v = true := decide_eq_true (by
        have : qAp (zP z) (qRow (zP z) (zTr z t) a) (qRow (zP z) (zTr z t) b) v = i := qFst_at hI (decide_eq_true c) hi
        omega)
      rw [this] at hP
      exact hP
theorem m_watchAll {P : jM → Bool → Prop} {t many set : Nat} (h : mI M z) (ht : t < 4) (hr : (zTr z t).1 = true) (hm4 : many ≤ 4) (hset : set < 64) (hl : many * qc (zP z) ≤ (zTr z t).2.2.1) (hH : ∀ j, j < many * qc (zP z) → qht ((zTr z t).2.2.2 j) = true) (hP : P M (qWt (zP z) (zTr z t) many set)) : JC x jtbM mX12_watchAll (d + 3) [.ref (x.2.2.2 0), .int (nI t), .int (nI many), .int (nI set)] M (jZ P) := by
  have w := h.pl.wf
  have h6 := w.2.2.2.1
  have hp := h.pl
  refine b_X12_watchAll ?_
  refine jloop (fun a (_ : Unit) => JW x jtbM mX12_watchAll (d + 3) (jZ P) 3 [(0, .ref (x.2.2.2 0)), (1, .int (nI t)), (2, .int (nI many)), (3, .int (nI set)), (4, .int (nI a))] [] M) (fun a _ => ∀ a', a' < a → ∀ b', b' < many → a' < b' → qTd (zP z) (zTr z t) a' b' set = true) many ?_ ?_ 0 () (Nat.zero_le _) (fun j hj => absurd hj (Nat.not_lt_zero _))
  · rintro _ hI
    refine b_X12_watchAll_3 (pk_le many many (fun _ => ?_) (fun c => absurd c (by omega)))
    rw [show qWt (zP z) (zTr z t) many set = true from decide_eq_true hI] at hP
    exact hP
  · rintro a _ ha hI ih
    refine b_X12_watchAll_3 (pk_le many a (fun c => absurd c (by omega)) (fun _ => ?_))
    rw [nI_1]
    refine jloop (fun b (_ : Unit) => JW x jtbM mX12_watchAll (d + 3) (jZ P) 15 [(0, .ref (x.2.2.2 0)), (1, .int (nI t)), (2, .int (nI many)), (3, .int (nI set)), (4, .int (nI a)), (5, .int (nI b))] [] M) (fun b _ => a + 1 ≤ b ∧ ∀ b', b' < b → a < b' → qTd (zP z) (zTr z t) a b' set = true) many ?_ ?_ (a + 1) () ha ⟨Nat.le_refl _, fun b' h1 h2 => absurd h1 (by omega)⟩
    · rintro _ ⟨_, hb⟩
      refine b_X12_watchAll_15 (pk_le many many (fun _ => ?_) (fun c => absurd c (by omega)))
      rw [nI_1]
      refine ih () (fun a' h1 b' h2 h3 => ?_)
      rcases Nat.lt_or_ge a' a with u | u
      · exact hI a' u b' h2 h3
      · obtain rfl : a' = a := by omega
        exact hb b' h2 h3
    · rintro b _ hb ⟨hab, hJ⟩ ihb
      refine b_X12_watchAll_15 (pk_le many b (fun c => absurd c (by omega)) (fun _ => ?_))
      refine jloop (fun v (f : Bool) => JW x jtbM mX12_watchAll (d + 3) (jZ P) 27 [(0, .ref (x.2.2.2 0)), (1, .int (nI t)), (2, .int (nI many)), (3, .int (nI set)), (4, .int (nI a)), (5, .int (nI b)), (6, .int (jb f)), (7, .int (nI v))] [] M) (fun v f => f = decide (qFst (fun v => set.testBit v && qTe (zP z) (zTr z t) a b v) v < v)) (qn (zP z)) ?_ ?_ 0 false (Nat.zero_le _) rfl
      · rintro f hf
        refine b_X12_watchAll_27 ?_
        rw [hp.n]
        refine pk_le (qn (zP z)) (qn (zP z)) (fun _ => ?_) (fun c => absurd c (by omega))
        rw [jb_0, nI_1]
        refine ⟨fun c => ihb () ⟨by omega, fun b' h1 h2 => ?_⟩, fun c => ?_⟩
        · rcases Nat.lt_or_ge b' b with u | u
          · exact hJ b' u h2
          · obtain rfl : b' = b := by omega
            have : f = true := by revert c; cases f <;> simp
            rw [this] at hf
            exact hf.symm
        · have : qWt (zP z) (zTr z t) many set = false := decide_eq_false (fun al => by
            have := al a ha b hb (by omega)
            have e : qTd (zP z) (zTr z t) a b set = f := hf.symm
            rw [e, c] at this
            cases this)
          rw [this] at hP
          exact hP
      · rintro v f hv hf ihv
        refine b_X12_watchAll_27 ?_
        rw [hp.n]
        refine pk_le (qn (zP z)) v (fun c => absurd c (by omega)) (fun _ => ?_)
        rw [jb_0, nI_1]
        refine ⟨fun c => ihv true ?_, fun c => ?_⟩
        · have : f = true := by revert c; cases f <;> simp
          rw [this] at hf
          obtain ⟨i, h1, h2⟩ := qFst_lt.mp (of_decide_eq_true hf.symm)
          exact (decide_eq_true (qFst_lt.mpr ⟨i, by omega, h2⟩)).symm
        · rw [c] at hf
          have none_ : ∀ i, i < v → (set.testBit i && qTe (zP z) (zTr z t) a b i) = false := fun i hi => by
            apply Bool.eq_false_iff.mpr
            intro e
            exact of_decide_eq_false hf.symm (qFst_lt.mpr ⟨i, hi, e⟩)
          have stay : (set.testBit v && qTe (zP z) (zTr z t) a b v) = false → false = decide (qFst (fun v => set.testBit v && qTe (zP z) (zTr z t) a b v) (v + 1) < v + 1) := fun e => by
            refine (decide_eq_false (fun l => ?_)).symm
            obtain ⟨i, h1, h2⟩ := qFst_lt.mp l
            rcases Nat.lt_or_ge i v with u | u
            · rw [none_ i u] at h2; cases h2
            · obtain rfl : i = v := by omega
              rw [e] at h2; cases h2
          refine b_X12_has ?_
          rw [nI_testBit _ (by omega) (by omega)]
          refine ⟨fun q => ?_, fun q => ?_⟩
          · refine ⟨fun _ => ihv false (stay ?_), fun c => by cases c⟩
            rw [Bool.eq_false_iff.mpr q]; rfl
          · refine ⟨fun c => (by cases c), fun _ => m_parts h ht hr hm4 ha hb hv hl hH ⟨fun e => ihv false (stay ?_), fun e => ihv true ?_⟩⟩
            · rw [e, Bool.and_false]
            · exact (decide_eq_true (qFst_lt.mpr ⟨v, by omega, by rw [q, e]; rfl⟩)).symm
theorem n_watchers {P : jM → Int32 → Prop} {a m : Int32} (h : mI M z) (hP : ∀ M', mI M' (sWatchers z a m).1 → P M' (sWatchers z a m).2) : JC x jtbM mX12_watchers (d + 4) [.ref (x.2.2.2 0), .int a, .int m] M (jI P) := by
  unfold sWatchers at hP
  have w := h.pl.wf
  have h25 := w.c25
  have h6 := w.2.2.2.1
  have h64 : 2 ^ qn (zP z) ≤ 64 := Nat.pow_le_pow_right (by decide) h6
  refine b_X12_watchers ?_
  rintro M1 rfl M2 rfl
  have h2 := (h.th 0).st 0
  generalize jrI (jrI M 0 (upd (M.1 0) 1 0)) 0 (upd ((jrI M 0 (upd (M.1 0) 1 0)).1 0) 0 0) = M2 at h2 ⊢
  have hp : mPl (M2.1 5) (zP z) := h2.pl
  have no : ∀ r : Int32, qTold z a m 2 4 (qc (zP z)) = r → ¬ r = 0 → JC x jtbM mX12_refuse (d + 3) [.ref (x.2.2.2 0), .int r] M2 (jI fun M11 r6 => P M11 r6) := fun r e ne => by
    rw [if_neg (by rw [e]; exact ne), e] at hP
    exact m_refuse h2 hP
  refine k_mIsTray ⟨fun q => ?_, fun q => no 1 (by unfold qTold; rw [q]; rfl) (by decide)⟩
  obtain ⟨t, ht, rfl, e1⟩ := qin_0 q (by omega)
  have t1 : mTr M2 t (zTr z t) := h2.tr ht
  refine ⟨t, ht, rfl, ?_⟩
  rw [(tr_there t1).2]
  refine ⟨fun c1 => ?_, fun c1 => no 3 (by unfold qTold; rw [if_pos q, e1, if_neg c1]) (by decide)⟩
  refine k_mIsIn ?_
  rw [show decide ((2 : Int64).toInt ≤ m.toInt64.toInt ∧ m.toInt64.toInt ≤ (4 : Int64).toInt) = qrg m 2 4 by rw [Int32.toInt_toInt64]; rfl]
  refine ⟨fun c2 => ?_, fun c2 => no 5 (by unfold qTold; rw [if_pos q, e1, if_pos c1, c2]; rfl) (by decide)⟩
  obtain ⟨many, m1, m2, rfl, e2⟩ := qrg_t c2 (by omega)
  have told : qTold z (nI t) (nI many) 2 4 (qc (zP z)) = nI (qRs (zTr z t) (many * qc (zP z))) := by
    unfold qTold
    rw [if_pos q, e1, if_pos c1, if_pos c2, e2]
  have l5 := qRs_le (zTr z t) (many * qc (zP z))
  have c100 : many * qc (zP z) ≤ 4 * 25 := Nat.mul_le_mul m2 h25
  refine k_mCells hp ?_
  rw [pk_mul]
  refine m_wrongRow (z := uSt z 0) h2 ht c1 (by omega) ?_
  show (nI (qRs (zTr z t) (many * qc (zP z))) ≤ 0 → _) ∧ (¬ nI (qRs (zTr z t) (many * qc (zP z))) ≤ 0 → _)
  rcases Nat.eq_zero_or_pos (qRs (zTr z t) (many * qc (zP z))) with u | u
  · rw [u] at told ⊢
    refine ⟨fun _ => ?_, fun n => absurd (show nI 0 ≤ (0 : Int32) by decide) n⟩
    rw [if_pos (show _ = (0 : Int32) from told), e1, e2] at hP
    obtain ⟨r1, r2⟩ := qRs_0 u
    refine jloop (fun v (s : Int32) => JW x jtbM mX12_watchers (d + 4) (jI P) 87 [(0, .ref (x.2.2.2 0)), (1, .int (nI t)), (2, .int (nI many)), (4, .int s), (5, .int (nI v))] [] M2) (fun v s => s = oI (qBest (qWt (zP z) (zTr z t) many) v)) (2 ^ qn (zP z)) ?_ ?_ 0 (-1) (Nat.zero_le _) rfl
    · rintro _ rfl
      refine b_X12_watchers_87 ?_
      rw [hp.n, nI_shl1 _ (by omega)]
      refine pk_le (2 ^ qn (zP z)) (2 ^ qn (zP z)) (fun _ => ?_) (fun c => absurd c (by omega))
      cases e : qBest (qWt (zP z) (zTr z t) many) (2 ^ qn (zP z)) with
      | none =>
        rw [e] at hP
        exact ⟨fun c => absurd c (by decide), fun _ => m_refuse h2 hP⟩
      | some b =>
        rw [e] at hP
        have := (qBest_lt e).1
        exact ⟨fun _ => hP _ h2, fun c => absurd (nI_pos' (show b < 2 ^ 31 by omega)) c⟩
    · rintro v _ hv rfl ih
      have try_ : (∀ u, qBest (qWt (zP z) (zTr z t) many) v = some u → qPop v < qPop u) → JW x jtbM mX12_watchers (d + 4) (jI P) 118 [(0, .ref (x.2.2.2 0)), (1, .int (nI t)), (2, .int (nI many)), (4, .int (oI (qBest (qWt (zP z) (zTr z t) many) v))), (5, .int (nI v))] [] M2 := fun q => by
        refine b_X12_watchers_118 (m_watchAll (z := uSt z 0) h2 ht c1 m2 (by omega) r1 r2 ?_)
        rw [nI_1]
        refine ⟨fun c => ih _ ?_, fun c => ih _ ?_⟩
        · rw [qBest_no (show qWt (zP z) (zTr z t) many v = false from c)]
        · rw [qBest_take (show qWt (zP z) (zTr z t) many v = true from c) q]; rfl
      refine b_X12_watchers_87 ?_
      rw [hp.n, nI_shl1 _ (by omega)]
      refine pk_le (2 ^ qn (zP z)) v (fun c => absurd c (by omega)) (fun _ => ?_)
      cases e : qBest (qWt (zP z) (zTr z t) many) v with
      | none =>
        rw [e] at try_
        exact ⟨fun _ => try_ (fun t c => by cases c), fun q => absurd (show (-1 : Int32) < 0 by decide) q⟩
      | some b =>
        have hb := (qBest_lt e).1
        rw [e] at try_
        refine ⟨fun c => absurd c (nI_pos (by omega)), fun _ => k_mBits (n := v) (by omega) (k_mBits (n := b) (by omega) ?_)⟩
        have p1 := fb_ct_le v.testBit 32
        have p2 := fb_ct_le b.testBit 32
        rw [nI_1]
        refine pk_le (qPop b) (qPop v) (fun c => ih _ (by rw [qBest_more e c, e])) (fun c => try_ (fun t ht => by cases ht; exact c)) rfl rfl (Nat.lt_of_le_of_lt p2 (by decide)) (Nat.lt_of_le_of_lt p1 (by decide))
  · exact ⟨fun c => absurd c (nI_nle u (Nat.lt_of_le_of_lt l5 (by decide))), fun _ => no _ told (nI_ne0 u (Nat.lt_of_le_of_lt l5 (by decide)))⟩
end WA2
