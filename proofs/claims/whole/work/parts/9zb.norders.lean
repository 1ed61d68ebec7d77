/-! orders, on the model's side -/
theorem mBdy.shift {c c' : Nat → Int32} {pl : qP} {v : Nat → Int32} {w w' : Nat} (h : mBdy c pl v w) (ec : ∀ k, k < 7 → c' (w' + k) = c (w + k)) : mBdy c' pl v w' := by
  have e0 : c' w' = c w := ec 0 (by omega)
  unfold mBdy mTst
  rw [e0, ec 1 (by omega), ec 2 (by omega), ec 3 (by omega), ec 4 (by omega), ec 5 (by omega), ec 6 (by omega)]
  exact h
theorem oWl_start {pl : qP} {g0 : Nat → Nat → Int32} : oWl pl (0, fun _ => 0, 0, 0, g0) := ⟨⟨Nat.zero_le _, Nat.zero_le _, Nat.le_refl _, fun i hi => absurd hi (Nat.not_lt_zero _)⟩, fun _ => rfl, fun i j _ hj => absurd hj (Nat.not_lt_zero _), fun i hi => absurd hi (Nat.not_lt_zero _), fun i hi => absurd hi (Nat.not_lt_zero _), fun i hi => absurd hi (Nat.not_lt_zero _), fun i hi => absurd hi (Nat.not_lt_zero _), fun c a e b _ he => absurd he (Nat.not_lt_zero _)⟩
theorem mStep_of {c c' : Nat → Int32} {pl : qP} {sk : Nat → Nat} {s m a : Nat} {o : Nat → Nat → Int32} (sp : mSp c pl (0, sk, s, m, o)) (wl : oWl pl (0, sk, s, m, o)) (hc : ∀ q, q < 8 * s → c' (171 + q) = c (1819 + q)) (ha : a < m) (h16 : ¬ o 0 a = 16) : mStep c' pl (oMk (0, sk, s, m, o)) a (171 + 8 * qStp (oMk (0, sk, s, m, o)) a) := by
  have qe : ∀ j, qStp (oMk (0, sk, s, m, o)) j = oSt o j := fun j => qStp_congr (o := (fun _ => 0, o)) (fun _ _ => Iff.rfl)
  have sm : oSt o m = s := wl.2.1 _
  have lt := oSt_lt (o := o) ha h16
  rw [sm] at lt
  obtain ⟨b1, b2, b3⟩ := sp a ha h16
  dsimp only at b1 b2 b3
  have cc : ∀ q, q < 8 → c' (171 + 8 * oSt o a + q) = c (1819 + 8 * oSt o a + q) := fun q hq => by
    have := hc (8 * oSt o a + q) (by omega)
    rw [← Nat.add_assoc, ← Nat.add_assoc] at this
    exact this
  have B : mBdy c' pl (fun r => o r a) (171 + 8 * oSt o a) := b1.shift (fun q hq => cc q (by omega))
  rw [qe a]
  refine ⟨B.1, B.2.1, B.2.2.1, B.2.2.2, fun nb => ?_, fun yb e he e6 => ?_⟩
  · rw [qe a, cc 7 (by omega)]; exact b2 nb
  · rw [qe e, cc 7 (by omega)]; exact b3 yb (fun i hi => absurd hi (Nat.not_lt_zero _)) e he e6
section NOR
variable {x : jX} {d : Nat} {M : jM} {z : qZ}
theorem m_isWellS {P : jM → Bool → Prop} (h : mI M z) (h0 : M.1 0 12 = 0) (hP : ∀ M', mI M' (uFa z (0, -1)) → (∀ q, q ≠ 0 → M'.1 q = M.1 q) → M'.2 = M.2 → M'.1 0 53 = M.1 0 53 → P M' true) : JC x jtbM mX12_isWell (d + 1) [.ref (x.2.2.2 0)] M (jZ P) := by
  refine b_X12_isWell ?_
  intro M1 e1
  have s12 : M1.1 0 12 = M.1 0 12 := by rw [e1, jrI_s, pk_un (by omega)]
  rw [s12]
  refine ⟨fun u => absurd h0 u, fun _ => b_X12_isWell_24 ?_⟩
  intro M2 e2
  have t12 : M2.1 0 12 = M.1 0 12 := by rw [e2, jrI_s, pk_un (by omega)]; exact s12
  rw [t12]
  refine ⟨fun _ => hP M2 (h.setFa (e := (0, -1)) (N' := M2) (fun q hq => by rw [e2, jrI_n hq, e1, jrI_n hq]) (by rw [e2, e1]; rfl) (fun k k1 k2 => by rw [e2, jrI_s, pk_un k2, e1, jrI_s, pk_un k1]) ?_ ?_) (fun q hq => by rw [e2, jrI_n hq, e1, jrI_n hq]) (by rw [e2, e1]; rfl) (by rw [e2, jrI_s, pk_un (by omega), e1, jrI_s, pk_un (by omega)]), fun u => absurd h0 u⟩
  · rw [e2, jrI_s, pk_un (by omega), e1, jrI_s, pk_us]; exact h0
  · rw [e2, jrI_s, pk_us]
theorem n_orders {P : jM → Int32 → Prop} {a : Int32} {g0 : Nat → Nat → Int32} (h : mI M z) (hP : ∀ M', mI M' (sOrders z a g0).1 → P M' (sOrders z a g0).2) : JC x jtbM mX12_orders (d + 11) [.ref (x.2.2.2 0), .int a] M (jI P) := by
  obtain ⟨t9, trng, -⟩ := id h.ok
  unfold sOrders at hP
  have z0 : (0 : Int32).toInt = 0 := by decide
  have z3 : (300 : Int32).toInt = 300 := by decide
  refine b_X12_orders (d := d + 10) ?_
  intro M1 e1 M2 e2
  have h2 : mI M2 (uSt z 0) := by rw [e2, e1]; exact (h.th 0).st 0
  have e8 : M2.1 0 8 = nI (zTp z).1 := h2.2.2.2.2.1
  refine b_X12_opens (d := d + 9) ?_
  rw [e8, Int32.lt_iff_toInt_lt, Int32.lt_iff_toInt_lt, Int32.le_iff_toInt_le, z0, nI_toInt (by omega), z3]
  refine ⟨fun c => ?_, fun c => ⟨fun c2 => ?_, fun c2 => ⟨fun c3 => ?_, fun c3 => ?_⟩⟩⟩
  · rw [decide_eq_false (by omega)] at hP; exact m_no h2 (fun M' h' => ⟨fun u => (by cases u), fun _ => hP M' h'⟩)
  · rw [decide_eq_false (by omega)] at hP; exact m_no h2 (fun M' h' => ⟨fun u => (by cases u), fun _ => hP M' h'⟩)
  · rw [decide_eq_true ⟨by omega, by omega, c3⟩, if_pos rfl] at hP
    obtain ⟨n, nl, rfl⟩ : ∃ n, n ≤ (zTp z).1 ∧ a = nI n := ⟨a.toInt.toNat, by omega, Int32.toInt_inj.mp (by rw [nI_toInt (by omega)]; omega)⟩
    rw [nI_clamp (by omega)] at hP
    intro M3 e3 M4 e4 M5 e5 M6 e6
    have h3 : mI M3 (uSt z 0) := by rw [e3]; exact h2.keep (mSame.slot (by unfold mScI; omega))
    have h4 : mI M4 (uTp (uSt z 0) (0, (zTp z).2)) := h3.setTp (n := 0) (f := (zTp z).2) (by rw [e4]; exact jsame.I (Or.inl rfl)) (by rw [e4]; rfl) (fun k hk => by rw [e4, jrI_s, pk_un hk]) (by rw [e4, jrI_s, pk_us]; rfl) (by omega) (fun k hk => absurd hk (Nat.not_lt_zero _)) trng
    have h6 : mI M6 (uTp (uSt z 0) (0, (zTp z).2)) := by rw [e6, e5]; exact (h4.keep (mSame.slot (by unfold mScI; omega))).keep (mSame.slot (by unfold mScI; omega))
    have t6 : mTx M6 (zTp z).2 n := ⟨by omega, fun k hk => by rw [e6, jrI_n (by omega), e5, jrI_n (by omega), e4, jrI_n (by omega)]; exact h3.2.2.2.2.2.1 k (show k < (zTp z).1 by omega), trng, by rw [e6, jrI_s, pk_un (by omega), e5, jrI_s, pk_un (by omega), e4, jrI_s, pk_un (by omega), e3, jrI_s, pk_us]⟩
    have f16 : M6.1 0 16 = nI 0 := by rw [e6, jrI_s, pk_un (by omega), e5, jrI_s, pk_us]; rfl
    have ok6 : M6.1 0 12 = 0 := by rw [e6, jrI_s, pk_us]
    refine m_next t6 f16 (Nat.zero_le _) (fun M7 k7 r7 => ⟨fun _ => ?_, fun u => (by cases u)⟩)
    intro M8 e8'
    have r8 : mRt M8 (zTp z).2 n 0 := by rw [e8']; exact mRt.slot ⟨t6.keep k7, r7, Nat.zero_le _⟩ (by omega) (by omega)
    have s8 : mSame M6 M8 := by rw [e8']; exact k7.same.tr (mSame.slot (by unfold mScI; omega))
    have ok8 : M8.1 0 12 = 0 := by rw [e8', jrI_s, pk_un (by omega)]; exact k7.ok ok6
    have v8 : M8.1 0 53 = nI 0 := by rw [e8', jrI_s, pk_us]; rfl
    obtain ⟨hp0, hn0, ht0, -⟩ := mWd0 h6.nw
    have hp0' : mPl (M6.1 5) (zP z) := hp0
    have hn0' : ∀ v, v < qn (zP z) → M6.2 6 v = qName (zP z) v := hn0
    generalize hR : qOrd (zTp z).2 n (zP z) g0 = R at hP
    -- a fault
    have badE : ∀ e, R = .inl e → ∀ M', mSame M6 M' → mBd M' e → JW x jtbM mX12_orders (d + 11) (jI P) 28 [(0, .ref (x.2.2.2 0))] [] M' := fun e he M' s' b' => by
      rw [he] at hP
      exact b_X12_orders_28 (d := d + 10) ⟨fun _ => b_X12_orders_50 (d := d + 10) (m_isWellB (h6.keep s') b' (fun M' h' => ⟨fun u => (by cases u), fun _ => hP M' h'⟩)), fun u => absurd u b'.ne⟩
    -- the end
    have fin : ∀ st, R = .inr st → st.1 = 0 → ∀ M' aa, mSame M6 M' → mOS M' (zTp z).2 n aa (zP z) st → JW x jtbM mX12_orders (d + 11) (jI P) 50 [(0, .ref (x.2.2.2 0))] [] M' := fun st hst d0 M' aa s' hO => by
      have okO := qOrd_ok (hR.trans hst)
      rw [hst] at hP
      dsimp only at hP
      obtain ⟨r9, ok9, v9, sp, wl⟩ := hO
      obtain ⟨dp, sk, s, m, o⟩ := st
      obtain ⟨⟨i1, i2, i3, i4⟩, -⟩ := id wl
      dsimp only at d0 v9 i1 i2 i3 hP
      subst d0
      refine b_X12_orders_50 (d := d + 10) (m_isWellS (h6.keep s') ok9 (fun M10 h10 f1 f2 f53 => ⟨fun _ => ?_, fun u => (by cases u)⟩))
      intro M11 e11 M12 e12
      have v11 : M11.1 0 53 = nI s := by rw [e11, jrI_n (by omega), f53]; exact v9
      rw [v11] at e12
      have q12 : ∀ k, k ≠ 169 → k ≠ 170 → M12.1 5 k = M'.1 5 k := fun k k1 k2 => by rw [e12, jrI_s, pk_un k2, e11, jrI_s, pk_un k1, f1 5 (by omega)]
      have w12 : ∀ q, q ≠ 5 → M12.1 q = M10.1 q := fun q hq => by rw [e12, jrI_n hq, e11, jrI_n hq]
      have x12 : M12.2 = M10.2 := by rw [e12, e11]; rfl
      refine jloop (fun i (M3 : jM) => JW x jtbM mX12_orders (d + 11) (jI P) 82 [(0, .ref (x.2.2.2 0)), (2, .int (nI i))] [] M3) (fun i M3 => (∀ q, q ≠ 5 → M3.1 q = M12.1 q) ∧ M3.2 = M12.2 ∧ (∀ k, (k < 171 ∨ 412 ≤ k) → M3.1 5 k = M12.1 5 k) ∧ ∀ k, k < i → M3.1 5 (171 + k) = M12.1 5 (1819 + k)) (8 * s) ?_ ?_ 0 M12 (Nat.zero_le _) ⟨fun _ _ => rfl, rfl, fun _ _ => rfl, fun k hk => absurd hk (Nat.not_lt_zero _)⟩
      · rintro M13 ⟨g1, g2, g3, g4⟩
        have v13 : M13.1 0 53 = nI s := by rw [g1 0 (by omega), w12 0 (by omega), f53]; exact v9
        refine b_X12_orders_82 (d := d + 10) ?_
        rw [v13, show (8 : Int32) = nI 8 from rfl, pk_mul]
        refine pk_le (8 * s) (8 * s) (fun _ => hP M13 ?_) (fun u => absurd u (by omega))
        obtain ⟨a1, a2, a3, -⟩ := mWd0 h10.nw
        have a1' : mPl (M10.1 5) (zP z) := a1
        have a2' : ∀ v, v < qn (zP z) → M10.2 6 v = qName (zP z) v := a2
        have a3' : mTn (M10.1 5) (zP z) (zT z) := a3
        have c13 : ∀ k, k < 169 → M13.1 5 k = M10.1 5 k := fun k hk => by rw [g3 k (by omega), q12 k (by omega) (by omega), f1 5 (by omega)]
        refine h10.setNw (w := (zP z, zT z, oMk (0, sk, s, m, o))) (fun q n5 n6 => ⟨by rw [g1 q n5, w12 q n5], by rw [g2, x12]⟩) (fun k k1 k2 => by rw [g3 k (by omega), q12 k (by omega) (by omega), f1 5 (by omega)]) (fun k _ _ => by rw [g2, x12]) ?_ okO
        have e0 : (fun k => M13.1 5 (412 * 0 + k)) = M13.1 5 := by funext k; rw [Nat.mul_zero, Nat.zero_add]
        unfold mWd
        rw [e0]
        refine ⟨a1'.keep (fun k hk => c13 k (by omega)), fun v hv => ?_, a3'.keep a1'.wf (fun k _ hk => c13 k hk), ?_, Or.inr rfl, fun _ => ⟨?_, fun n' hn' e' a ha h16 => ?_⟩⟩
        · rw [Nat.mul_zero, Nat.zero_add, g2, x12]; exact a2' v hv
        · rw [g3 169 (by omega), e12, jrI_s, pk_un (by omega), e11, jrI_s, pk_us]; rfl
        · rw [g3 170 (by omega), e12, jrI_s, pk_us]; rfl
        · obtain rfl : m = n' := (nI_eq (by omega) (by omega)).mp e'
          exact mStep_of sp wl (fun q hq => by rw [g4 q hq, q12 _ (by omega) (by omega)]) ha h16
      · rintro i M13 hi ⟨g1, g2, g3, g4⟩ ih
        have v13 : M13.1 0 53 = nI s := by rw [g1 0 (by omega), w12 0 (by omega), f53]; exact v9
        refine b_X12_orders_82 (d := d + 10) ?_
        rw [v13, show (8 : Int32) = nI 8 from rfl, pk_mul]
        refine pk_le (8 * s) i (fun u => absurd u (by omega)) (fun _ => ⟨1819 + i, by omega, by rw [show (1819 : Int32) = nI 1819 from rfl, nI_add], 171 + i, by omega, by rw [show (171 : Int32) = nI 171 from rfl, nI_add], fun M14 e14 => ?_⟩)
        rw [nI_1]
        refine ih M14 ⟨fun q hq => by rw [e14, jrI_n hq]; exact g1 q hq, by rw [e14]; exact g2, fun k hk => by rw [e14, jrI_s, pk_un (by omega)]; exact g3 k hk, fun k hk => ?_⟩
        rw [e14, jrI_s]
        by_cases e : k = i
        · rw [e, pk_us]; exact g3 _ (by omega)
        · rw [pk_un (by omega)]; exact g4 k (by omega)
    -- step by step
    have loop : ∀ k, ∀ aa st M', n ≤ aa + k → oLoop (zTp z).2 n (zP z) k aa st = R → mSame M6 M' → mOS M' (zTp z).2 n aa (zP z) st → st.1 = 0 → JW x jtbM mX12_orders (d + 11) (jI P) 28 [(0, .ref (x.2.2.2 0))] [] M' := by
      intro k
      induction k using Nat.strongRecOn with
      | ind k ihk =>
        intro aa st M' hk hR' s' hO d0
        have e0 : M'.1 0 14 = (0 : Int32) ↔ yK (zTp z).2 n aa = 0 := (hO.1.2.1.kind (k := 0) (by omega)).trans mkK_0
        refine b_X12_orders_28 (d := d + 10) ⟨fun u => absurd hO.2.1 u, fun _ => ?_⟩
        rw [e0]
        refine ⟨fun k0 => ?_, fun k0 => ?_⟩
        · have : R = .inr st := by
            cases k with
            | zero => rw [oLoop, if_pos d0] at hR'; exact hR'.symm
            | succ k => rw [oLoop, if_pos k0, if_pos d0] at hR'; exact hR'.symm
          exact fin st this d0 M' aa s' hO
        · have key := m_readStep (x := x) (E := d) hp0' hn0' 3 k aa st M' (fun M2 => JW x jtbM mX12_orders (d + 11) (jI P) 28 [(0, .ref (x.2.2.2 0))] [] M2) (by omega) hk hR' s' hO (fun _ => k0) (fun u => absurd d0 u) (fun k' a' st' M2 lk hk' hR2 s2 hO2 d2 _ _ => ihk k' lk a' st' M2 hk' hR2 s2 hO2 (by omega)) badE
          rw [d0] at key
          exact key
    exact loop n 0 (0, fun _ => 0, 0, 0, g0) M8 (by omega) hR s8 ⟨r8, ok8, v8, fun j hj => absurd hj (Nat.not_lt_zero _), oWl_start⟩ rfl
  · rw [decide_eq_false (by omega)] at hP; exact m_no h2 (fun M' h' => ⟨fun u => (by cases u), fun _ => hP M' h'⟩)
end NOR
