section APN
variable {x : jX} {d : Nat} {M : jM} {z : qZ}
theorem m_seenIn {P : jM → Int32 → Prop} {t side s from_ : Nat} (h : mI M z) (ht : t < 4) (hr : (zTr z t).1 = true) (hs8 : side < 8) (hs : s < 2 ^ 31) (hk : from_ + qc (zP z) ≤ (zTr z t).2.2.1) (hH : ∀ k, k < qc (zP z) → qht ((zTr z t).2.2.2 (from_ + k)) = true) (hP : P M (nI (qG (qw (zP z)) (qh (zP z)) side s (fun k => qtH (zTr z t) (from_ + k)) (qc (zP z))))) : JC x jtbM mX12_seenIn (d + 1) [.ref (x.2.2.2 0), .int (nI t), .int (nI from_), .int (nI side), .int (nI s)] M (jI P) := by
  have hp := h.pl
  have h25 := hp.wf.c25
  refine b_X12_seenIn ?_
  refine jloop (fun i (a : Int32) => JW x jtbM mX12_seenIn (d + 1) (jI P) 6 [(0, .ref (x.2.2.2 0)), (1, .int (nI t)), (2, .int (nI from_)), (3, .int (nI side)), (4, .int (nI s)), (5, .int a), (6, .int (nI i))] [] M) (fun i a => a = nI (qG (qw (zP z)) (qh (zP z)) side s (fun k => qtH (zTr z t) (from_ + k)) i)) (qc (zP z)) ?_ ?_ 0 0 (Nat.zero_le _) rfl
  · rintro _ rfl
    exact b_X12_seenIn_6 (k_mCells hp (pk_le (qc (zP z)) (qc (zP z)) (fun _ => hP) (fun c => absurd c (by omega))))
  · rintro i _ hi rfl ih
    have hF := qF_lt hs8 hi
    have h9 := qS_le (side := side) hp.wf.1 hp.wf.2.1
    refine b_X12_seenIn_6 (k_mCells hp (pk_le (qc (zP z)) i (fun c => absurd c (by omega)) (fun _ => k_mStripOf hp hs8 hi ?_)))
    have ihs := ih _ rfl
    rw [nI_1]
    refine ⟨fun c => ?_, fun c => ?_⟩
    · rw [nI_eq (by omega) hs] at c
      have e : qG (qw (zP z)) (qh (zP z)) side s (fun k => qtH (zTr z t) (from_ + k)) (i + 1) = qG (qw (zP z)) (qh (zP z)) side s (fun k => qtH (zTr z t) (from_ + k)) i := if_neg c
      rw [e] at ihs
      exact ihs
    · rw [nI_eq (by omega) hs] at c
      rw [nI_add]
      refine m_numberOf h ht hr (by omega) ?_
      rw [qtH_eq (hH i hi)]
      have q1 := qtH_le (zTr z t) (from_ + i)
      have q2 := qG_le (w := qw (zP z)) (h := qh (zP z)) (side := side) (s := s) (f := fun k => qtH (zTr z t) (from_ + k)) (B := 99) (fun c => qtH_le _ _) i
      refine k_maxN (by omega) (by omega) ?_
      have e : qG (qw (zP z)) (qh (zP z)) side s (fun k => qtH (zTr z t) (from_ + k)) (i + 1) = max (qG (qw (zP z)) (qh (zP z)) side s (fun k => qtH (zTr z t) (from_ + k)) i) (qtH (zTr z t) (from_ + i)) := if_pos c
      rw [e] at ihs
      exact ihs
theorem tr_there {N : jM} {t : Nat} {r : qT} (h : mTr N t r) : (N.1 2 t < 0 ↔ r.1 = false) ∧ (0 ≤ N.1 2 t ↔ r.1 = true) := by
  have h60 := h.2.2.2.2
  rw [h.1]
  cases e : r.1
  · rw [if_neg (by decide)]; exact ⟨⟨fun _ => rfl, fun _ => by decide⟩, ⟨fun c => absurd c (by decide), fun c => by cases c⟩⟩
  · exact ⟨⟨fun c => absurd c (nI_pos (by omega)), fun c => by cases c⟩, ⟨fun _ => rfl, fun _ => nI_pos' (by omega)⟩⟩
theorem n_apart {P : jM → Int32 → Prop} {a b v : Int32} (h : mI M z) (hP : ∀ M', mI M' (sApart z a b v).1 → P M' (sApart z a b v).2) : JC x jtbM mX12_apart (d + 2) [.ref (x.2.2.2 0), .int a, .int b, .int v] M (jI P) := by
  unfold sApart at hP
  have h25 := h.pl.wf.c25
  have h6 := h.pl.wf.2.2.2.1
  refine b_X12_apart ?_
  rintro M1 rfl M2 rfl
  have h2 := (h.th 0).st 0
  generalize jrI (jrI M 0 (upd (M.1 0) 1 0)) 0 (upd ((jrI M 0 (upd (M.1 0) 1 0)).1 0) 0 0) = M2 at h2 ⊢
  have hp : mPl (M2.1 5) (zP z) := h2.pl
  refine k_mIsTray ⟨fun q => ?_, fun q => k_mIsTray ⟨fun q2 => ?_, fun q2 => ?_⟩⟩
  · rw [q, Bool.false_and] at hP
    exact m_refuse h2 hP
  · rw [q, q2, if_pos (by rfl)] at hP
    obtain ⟨s, hs, rfl, e1⟩ := qin_0 q (by omega)
    obtain ⟨t, ht, rfl, e2⟩ := qin_0 q2 (by omega)
    rw [e1, e2] at hP
    refine k_mIsVillage hp ⟨fun c => ?_, fun c => ?_⟩
    · rw [if_pos c] at hP
      obtain ⟨j, hj, rfl, e3⟩ := qin_0 c (by omega)
      rw [e3] at hP
      have t1 : mTr M2 s (zTr z s) := h2.tr hs
      have t2 : mTr M2 t (zTr z t) := h2.tr ht
      have no : ∀ r : Int32, qCs (zTr z s) (zTr z t) (qc (zP z)) = r → ¬ r = 0 → JC x jtbM mX12_refuse (d + 1) [.ref (x.2.2.2 0), .int r] M2 (jI fun M11 r6 => P M11 r6) := fun r e ne => by
        rw [if_neg (by rw [e]; exact ne), e] at hP
        exact m_refuse h2 hP
      refine ⟨s, hs, rfl, ?_⟩
      rw [(tr_there t1).1]
      refine ⟨fun c1 => no 3 (by unfold qCs; rw [c1]; rfl) (by decide), fun c1 => ⟨t, ht, rfl, ?_⟩⟩
      have c1' : (zTr z s).1 = true := by revert c1; cases (zTr z s).1 <;> simp
      rw [(tr_there t2).2]
      refine ⟨fun c2 => ?_, fun c2 => no 3 (by unfold qCs; rw [show (zTr z t).1 = false by revert c2; cases (zTr z t).1 <;> simp, Bool.and_false]; rfl) (by decide)⟩
      have cs : qCs (zTr z s) (zTr z t) (qc (zP z)) = (if qRs (zTr z s) (qc (zP z)) = 4 ∨ qRs (zTr z t) (qc (zP z)) = 4 then 4 else if qRs (zTr z s) (qc (zP z)) = 0 then nI (qRs (zTr z t) (qc (zP z))) else nI (qRs (zTr z s) (qc (zP z)))) := by
        unfold qCs; rw [c1', c2]; rfl
      have l1 := qRs_le (zTr z s) (qc (zP z))
      have l2 := qRs_le (zTr z t) (qc (zP z))
      refine k_mCells hp (m_wrongRow (z := uSt z 0) h2 hs c1' (by omega) (k_mCells hp (m_wrongRow (z := uSt z 0) h2 ht c2 (by omega) ?_)))
      have e0 : ∀ n, (nI n = (4 : Int32)) = (nI n = nI 4) := fun _ => rfl
      show (nI (qRs (zTr z s) (qc (zP z))) = (4 : Int32) → _) ∧ (¬ nI (qRs (zTr z s) (qc (zP z))) = (4 : Int32) → (¬ nI (qRs (zTr z t) (qc (zP z))) = (4 : Int32) → _) ∧ (nI (qRs (zTr z t) (qc (zP z))) = (4 : Int32) → _))
      rw [e0, e0, nI_eq (by omega) (by omega), nI_eq (by omega) (by omega)]
      refine ⟨fun w => no _ (cs.trans (if_pos (Or.inl w))) (by decide), fun w => ⟨fun w2 => ?_, fun w2 => no _ (cs.trans (if_pos (Or.inr w2))) (by decide)⟩⟩
      rw [if_neg (by omega)] at cs
      refine ⟨fun w3 => ?_, fun w3 => ?_⟩
      · have : ¬ qRs (zTr z s) (qc (zP z)) = 0 := fun u => absurd w3 (by show ¬ (0 : Int32) < nI (qRs (zTr z s) (qc (zP z))); rw [u]; decide)
        rw [if_neg this] at cs
        rcases qRs_5 w with u | u
        · exact absurd u this
        · rw [u] at cs
          exact no _ cs (by decide)
      · have u0 : qRs (zTr z s) (qc (zP z)) = 0 := by
          rcases qRs_5 w with u | u
          · exact u
          · exact absurd (show (0 : Int32) < nI (qRs (zTr z s) (qc (zP z))) by rw [u]; decide) w3
        rw [if_pos u0] at cs
        refine ⟨fun w4 => ?_, fun w4 => ?_⟩
        · have u1 : qRs (zTr z t) (qc (zP z)) = 0 := by
            rcases qRs_5 w2 with u | u
            · exact u
            · exact absurd w4 (by show ¬ nI (qRs (zTr z t) (qc (zP z))) ≤ (0 : Int32); rw [u]; decide)
          rw [u1] at cs
          rw [if_pos (show _ = (0 : Int32) from cs)] at hP
          have r1 := qRs_0 u0
          have r2 := qRs_0 u1
          have s8 := h.pl.wf.2.2.2.2.2.2.2.2.2.1 j
          have h9 := qSt_le h.pl.wf j
          refine jloop (fun i (_ : Unit) => JW x jtbM mX12_apart (d + 2) (jI P) 129 [(0, .ref (x.2.2.2 0)), (1, .int (nI s)), (2, .int (nI t)), (3, .int (nI j)), (6, .int (nI i))] [] M2) (fun i _ => ∀ k, k < i → decide (¬ qG (qw (zP z)) (qh (zP z)) (qSide (zP z) j) k (qtH (zTr z s)) (qc (zP z)) = qG (qw (zP z)) (qh (zP z)) (qSide (zP z) j) k (qtH (zTr z t)) (qc (zP z))) = false) (qSt (zP z) j) ?_ ?_ 0 () (Nat.zero_le _) (fun j hj => absurd hj (Nat.not_lt_zero _))
          · rintro _ hI
            refine b_X12_apart_129 (k_mStrips hp hj (pk_le (qSt (zP z) j) (qSt (zP z) j) (fun _ => ?_) (fun c => absurd c (by omega))))
            have : qAp (zP z) (qtH (zTr z s)) (qtH (zTr z t)) j = qSt (zP z) j := qFst_no hI
            rw [this, if_neg (by omega)] at hP
            exact m_refuse h2 hP
          · rintro i _ hi hI ih
            refine b_X12_apart_129 (k_mStrips hp hj (pk_le (qSt (zP z) j) i (fun c => absurd c (by omega)) (fun _ => ⟨78 + j, by omega, by rw [jn78, nI_add], ?_⟩)))
            rw [hp.side hj]
            have eS : (fun k => qtH (zTr z s) (0 + k)) = qtH (zTr z s) := by funext k; rw [Nat.zero_add]
            have eT : (fun k => qtH (zTr z t) (0 + k)) = qtH (zTr z t) := by funext k; rw [Nat.zero_add]
            refine m_seenIn (z := uSt z 0) (from_ := 0) h2 hs c1' s8 (by omega) (by rw [Nat.zero_add]; exact r1.1) (fun k hk => by rw [Nat.zero_add]; exact r1.2 k hk) ?_
            rw [hp.side hj]
            refine m_seenIn (z := uSt z 0) (from_ := 0) h2 ht c2 s8 (by omega) (by rw [Nat.zero_add]; exact r2.1) (fun k hk => by rw [Nat.zero_add]; exact r2.2 k hk) ?_
            show (nI (qG (qw (zP z)) (qh (zP z)) (qSide (zP z) j) i (fun k => qtH (zTr z s) (0 + k)) (qc (zP z))) = nI (qG (qw (zP z)) (qh (zP z)) (qSide (zP z) j) i (fun k => qtH (zTr z t) (0 + k)) (qc (zP z))) → _) ∧ (¬ nI (qG (qw (zP z)) (qh (zP z)) (qSide (zP z) j) i (fun k => qtH (zTr z s) (0 + k)) (qc (zP z))) = nI (qG (qw (zP z)) (qh (zP z)) (qSide (zP z) j) i (fun k => qtH (zTr z t) (0 + k)) (qc (zP z))) → _)
            rw [eS, eT]
            have q1 := qG_le (w := qw (zP z)) (h := qh (zP z)) (side := qSide (zP z) j) (s := i) (f := qtH (zTr z s)) (qtH_le _) (qc (zP z))
            have q2 := qG_le (w := qw (zP z)) (h := qh (zP z)) (side := qSide (zP z) j) (s := i) (f := qtH (zTr z t)) (qtH_le _) (qc (zP z))
            rw [nI_eq (by omega) (by omega), nI_1]
            refine ⟨fun c => ih () (fun k hk => ?_), fun c => ?_⟩
            · rcases Nat.lt_or_ge k i with q | q
              · exact hI k q
              · obtain rfl : k = i := by omega
                exact decide_eq_false (fun n => n c)
            · have : qAp (zP z) (qtH (zTr z s)) (qtH (zTr z t)) j = i := qFst_at hI (decide_eq_true c) hi
              rw [this, if_pos hi] at hP
              exact hP _ h2
        · have u1 : qRs (zTr z t) (qc (zP z)) = 5 := by
            rcases qRs_5 w2 with u | u
            · exact absurd (show nI (qRs (zTr z t) (qc (zP z))) ≤ (0 : Int32) by rw [u]; decide) w4
            · exact u
          rw [u1] at cs
          exact no _ cs (by decide)
    · rw [if_neg (by rw [c]; decide)] at hP
      exact m_refuse h2 hP
  · rw [q2, Bool.and_false] at hP
    exact m_refuse h2 hP
end APN
