section OR5
variable {x : jX} {d : Nat} {M : jM} {z : qZ}
theorem m_order64 {P : jM → Int32 → Prop} {t : Nat} (h : mI M z) (ht : t < 4) (hr : (zTr z t).1 = true) (r1 : qc (zP z) ≤ (zTr z t).2.2.1) (r2 : ∀ k, k < qc (zP z) → qht ((zTr z t).2.2.2 k) = true) (hP : ∀ M', mI M' (sOrd2 z t).1 → P M' (sOrd2 z t).2) :
    JW x jtbM mX12_order (d + 4) (jI P) 64 [(0, .ref (x.2.2.2 0)), (1, .int (nI t)), (3, .int (0 : Int32)), (4, .int (0 : Int32))] [] M := by
  unfold sOrd2 at hP
  have w := h.pl.wf
  have h25 := w.c25
  have t9 := h.tn.2
  have un_le : ∀ n, qUn (zT z) (qtH (zTr z t)) n ≤ n := fun n => fb_ct_le _ _
  have un_s : ∀ n, qUn (zT z) (qtH (zTr z t)) (n + 1) = qUn (zT z) (qtH (zTr z t)) n + (if decide (¬ zT z n = qtH (zTr z t) n) = true then 1 else 0) := fun n => rfl
  have un_m : ∀ {a b}, a ≤ b → qUn (zT z) (qtH (zTr z t)) a ≤ qUn (zT z) (qtH (zTr z t)) b := fun hab => fb_ct_mono _ hab
  refine jloop (fun i (s : Int32) => JW x jtbM mX12_order (d + 4) (jI P) 64 [(0, .ref (x.2.2.2 0)), (1, .int (nI t)), (3, .int s), (4, .int (nI i))] [] M) (fun i s => s = nI (qUn (zT z) (qtH (zTr z t)) i)) (qc (zP z)) ?_ ?_ 0 0 (Nat.zero_le _) rfl
  · rintro _ rfl
    have ul := un_le (qc (zP z))
    refine b_X12_order_64 (k_mCells h.pl (pk_le (qc (zP z)) (qc (zP z)) (fun _ => ?_) (fun c => absurd c (by omega))))
    refine pk_le (qUn (zT z) (qtH (zTr z t)) (qc (zP z))) 12 (fun u => ?_) (fun u => by rw [if_neg (by omega)] at hP; exact m_refuse h hP)
    rw [if_pos u] at hP
    intro M2 e2
    have h2 : mI M2 z := by rw [e2]; exact h.keep (mSame.slot (by unfold mScI; omega))
    have s40 : M2.1 0 40 = nI 0 := by rw [e2, jrI_s, pk_us]; rfl
    clear e2
    refine jloop2 (fun i (M3 : jM) (D : Nat → Nat) => JW x jtbM mX12_order (d + 4) (jI P) 131 [(0, .ref (x.2.2.2 0)), (1, .int (nI t)), (4, .int (nI i))] [] M3) (fun i M3 D => mI M3 z ∧ oD (zP z) (zT z) (qtH (zTr z t)) D (qUn (zT z) (qtH (zTr z t)) i) i ∧ M3.1 0 40 = nI (qUn (zT z) (qtH (zTr z t)) i) ∧ (∀ k, k < qUn (zT z) (qtH (zTr z t)) i → M3.1 12 k = nI (D k)) ∧ (∀ c, c < i → M3.1 14 c = nI (qtH (zTr z t) c)) ∧ ∀ c, c < i → M3.1 17 c = nI (zT z c)) (qc (zP z)) ?_ ?_ 0 M2 (fun _ => 0) (Nat.zero_le _) ⟨h2, ⟨fun i hi => absurd hi (Nat.not_lt_zero _), fun i j _ hj => absurd hj (Nat.not_lt_zero _), fun c hc => absurd hc (Nat.not_lt_zero _)⟩, s40, fun k hk => absurd hk (Nat.not_lt_zero _), fun k hk => absurd hk (Nat.not_lt_zero _), fun k hk => absurd hk (Nat.not_lt_zero _)⟩
    · rintro M3 D ⟨g1, g2, g3, g4, g5, g6⟩
      refine b_X12_order_131 (k_mCells g1.pl (pk_le (qc (zP z)) (qc (zP z)) (fun _ => ?_) (fun c => absurd c (by omega))))
      refine k_mAskAsSeen g1.pl g1.tn (fun M4 k1 k2 k3 => ?_)
      have h4 : mI M4 z := g1.keep (mSame.row (k1.mono (fun q hq => by unfold mScr; omega)))
      have p1 : 1 ≤ 2 ^ qUn (zT z) (qtH (zTr z t)) (qc (zP z)) := Nat.one_le_two_pow
      rw [(k1 0 (by omega)).1, g3, nI_shl1 _ (by omega), jn1, pk_sub p1]
      refine m_order238 (g := qtH (zTr z t)) (D := D) h4 (qtH_le _) u g2 rfl ⟨by rw [(k1 0 (by omega)).1]; exact g3, fun i hi => by rw [(k1 12 (by omega)).1]; exact g4 i hi, fun i hi => by rw [(k1 14 (by omega)).1]; exact g5 i hi, fun i hi => by rw [(k1 17 (by omega)).1]; exact g6 i hi, fun v s hv hs => k3.2.2 v s hv (pow_all hv) hs⟩ hP
    · rintro i M3 D hi ⟨g1, g2, g3, g4, g5, g6⟩ ih
      have ui := un_le i
      have us := un_s i
      have um := un_m (show i + 1 ≤ qc (zP z) from hi)
      refine b_X12_order_131 (k_mCells g1.pl (pk_le (qc (zP z)) i (fun c => absurd c (by omega)) (fun _ => ⟨144 + i, by omega, by rw [jn144, nI_add], i, by omega, rfl, ?_⟩)))
      intro M4 e4
      have h4 : mI M4 z := by rw [e4]; exact g1.keep (mSame.row ((jsame.I (S := fun q => q = 17) rfl).mono (fun q hq => by unfold mScr; omega)))
      refine m_numberOf h4 ht hr (by omega) ?_
      rw [qtH_eq (r2 i hi)]
      intro M5 e5
      have h5 : mI M5 z := by rw [e5]; exact h4.keep (mSame.row ((jsame.I (S := fun q => q = 14) rfl).mono (fun q hq => by unfold mScr; omega)))
      have s40' : M5.1 0 40 = nI (qUn (zT z) (qtH (zTr z t)) i) := by rw [e5, jrI_n (by omega), e4, jrI_n (by omega)]; exact g3
      have r12 : ∀ k, k < qUn (zT z) (qtH (zTr z t)) i → M5.1 12 k = nI (D k) := fun k hk => by rw [e5, jrI_n (by omega), e4, jrI_n (by omega)]; exact g4 k hk
      have r14 : ∀ c, c < i + 1 → M5.1 14 c = nI (qtH (zTr z t) c) := fun c hc => by
        rw [e5, jrI_s]
        by_cases q : c = i
        · rw [q, pk_us]
        · rw [pk_un q, e4, jrI_n (by omega)]; exact g5 c (by omega)
      have r17 : ∀ c, c < i + 1 → M5.1 17 c = nI (zT z c) := fun c hc => by
        rw [e5, jrI_n (by omega), e4, jrI_s]
        by_cases q : c = i
        · rw [q, pk_us]; exact g1.tn.1 i hi
        · rw [pk_un q]; exact g6 c (by omega)
      clear e5 e4
      have b1 := t9 i
      have b2 := qtH_le (zTr z t) i
      rw [r14 i (by omega), r17 i (by omega), nI_eq (by omega) (by omega), nI_1]
      refine ⟨fun q => ?_, fun q => ?_⟩
      · rw [if_pos (decide_eq_true q)] at us
        refine ⟨qUn (zT z) (qtH (zTr z t)) i, by omega, s40', ?_⟩
        intro M6 e6 M7 e7
        refine ih M7 (fun k => if k = qUn (zT z) (qtH (zTr z t)) i then i else D k) ⟨?_, ⟨fun k hk => ?_, fun a b h1 h2 => ?_, fun c hc hne => ?_⟩, ?_, fun k hk => ?_, fun c hc => ?_, fun c hc => ?_⟩
        · rw [e7, e6]
          exact (h5.keep (mSame.row ((jsame.I (S := fun q => q = 12) rfl).mono (fun q hq => by unfold mScr; omega)))).keep (mSame.slot (by unfold mScI; omega))
        · dsimp only
          by_cases e : k = qUn (zT z) (qtH (zTr z t)) i
          · rw [if_pos e]; exact ⟨by omega, q⟩
          · rw [if_neg e]
            have := g2.1 k (by omega)
            exact ⟨by omega, this.2⟩
        · dsimp only
          rw [if_neg (show ¬ a = qUn (zT z) (qtH (zTr z t)) i by omega)]
          by_cases e : b = qUn (zT z) (qtH (zTr z t)) i
          · rw [if_pos e]; exact (g2.1 a (by omega)).1
          · rw [if_neg e]; exact g2.2.1 a b h1 (by omega)
        · dsimp only
          by_cases e : c = i
          · exact ⟨qUn (zT z) (qtH (zTr z t)) i, by omega, by rw [if_pos rfl, e]⟩
          · obtain ⟨k, k1, k2⟩ := g2.2.2 c (by omega) hne
            exact ⟨k, by omega, by rw [if_neg (by omega)]; exact k2⟩
        · rw [e7, jrI_s, pk_us, e6, jrI_n (by omega), s40', nI_1, us]
        · rw [e7, jrI_n (by omega), e6, jrI_s]
          by_cases e : k = qUn (zT z) (qtH (zTr z t)) i
          · rw [e, pk_us, if_pos rfl]
          · rw [pk_un e, if_neg e]; exact r12 k (by omega)
        · rw [e7, jrI_n (by omega), e6, jrI_n (by omega)]; exact r14 c hc
        · rw [e7, jrI_n (by omega), e6, jrI_n (by omega)]; exact r17 c hc
      · rw [if_neg (by rw [decide_eq_true_iff]; exact fun n => n q), Nat.add_zero] at us
        refine ih M5 D ⟨h5, ?_, by rw [us]; exact s40', by rw [us]; exact r12, r14, r17⟩
        rw [us]
        refine ⟨fun k hk => ?_, g2.2.1, fun c hc hne => ?_⟩
        · have := g2.1 k hk
          exact ⟨by omega, this.2⟩
        · by_cases e : c = i
          · rw [e] at hne; exact absurd q hne
          · exact g2.2.2 c (by omega) hne
  · rintro i _ hi rfl ih
    have us := un_s i
    have b1 := t9 i
    refine b_X12_order_64 (k_mCells h.pl (pk_le (qc (zP z)) i (fun c => absurd c (by omega)) (fun _ => m_numberOf h ht hr (by omega) ⟨144 + i, by omega, by rw [jn144, nI_add], ?_⟩)))
    rw [h.tn.1 i hi, qtH_L (r2 i hi) b1]
    simp only [nI_1]
    refine ⟨fun q => ih _ ?_, fun q => ih _ ?_⟩
    · rw [us, if_pos (decide_eq_true q)]
    · rw [us, if_neg (by rw [decide_eq_true_iff]; exact fun n => n q)]
      show _ + nI 0 = _
      rw [nI_add]
theorem n_order {P : jM → Int32 → Prop} {a : Int32} (h : mI M z) (hP : ∀ M', mI M' (sOrder z a).1 → P M' (sOrder z a).2) : JC x jtbM mX12_order (d + 4) [.ref (x.2.2.2 0), .int a] M (jI P) := by
  unfold sOrder at hP
  have w := h.pl.wf
  have h25 := w.c25
  refine b_X12_order ?_
  rintro M1 rfl M2 rfl
  have h2 := (h.th 0).st 0
  generalize jrI (jrI M 0 (upd (M.1 0) 1 0)) 0 (upd ((jrI M 0 (upd (M.1 0) 1 0)).1 0) 0 0) = M2 at h2 ⊢
  have hp : mPl (M2.1 5) (zP z) := h2.pl
  refine k_mIsTray ⟨fun q => ?_, fun q => by rw [q] at hP; exact m_refuse h2 hP⟩
  rw [if_pos q] at hP
  obtain ⟨t, ht, rfl, e1⟩ := qin_0 q (by omega)
  rw [e1] at hP
  have t1 : mTr M2 t (zTr z t) := h2.tr ht
  refine ⟨t, ht, rfl, ?_⟩
  rw [(tr_there t1).2]
  refine ⟨fun c1 => ?_, fun c1 => by rw [if_neg c1] at hP; exact m_refuse h2 hP⟩
  rw [if_pos c1] at hP
  have l5 := qRs_le (zTr z t) (qc (zP z))
  refine k_mCells hp (m_wrongRow (z := uSt z 0) h2 ht c1 (by omega) ?_)
  show (nI (qRs (zTr z t) (qc (zP z))) ≤ 0 → _) ∧ (¬ nI (qRs (zTr z t) (qc (zP z))) ≤ 0 → _)
  rcases Nat.eq_zero_or_pos (qRs (zTr z t) (qc (zP z))) with u | u
  · rw [if_pos u] at hP
    rw [u]
    refine ⟨fun _ => ?_, fun n => absurd (show nI 0 ≤ (0 : Int32) by decide) n⟩
    obtain ⟨r1, r2⟩ := qRs_0 u
    refine m_order64 (z := uSt z 0) h2 ht c1 r1 r2 (fun M' g => ?_)
    have := hP M'
    unfold sOrd2 at g ⊢
    have eu : qUn (zT (uSt z 0)) (qtH (zTr (uSt z 0) t)) (qc (zP (uSt z 0))) = qUn (zT z) (qtH (zTr z t)) (qc (zP z)) := rfl
    have ea : qAlk (zP (uSt z 0)) (zT (uSt z 0)) (qtH (zTr (uSt z 0) t)) = qAlk (zP z) (zT z) (qtH (zTr z t)) := rfl
    rw [eu, ea] at g ⊢
    by_cases v : qUn (zT z) (qtH (zTr z t)) (qc (zP z)) ≤ 12
    · rw [if_pos v] at this g ⊢
      cases al : qAlk (zP z) (zT z) (qtH (zTr z t))
      · rw [al] at this g; exact this g
      · rw [al] at this g; exact this g
    · rw [if_neg v] at this g ⊢
      exact this g
  · rw [if_neg (by omega)] at hP
    exact ⟨fun c => absurd c (nI_nle u (Nat.lt_of_le_of_lt l5 (by decide))), fun _ => m_refuse h2 hP⟩
end OR5
