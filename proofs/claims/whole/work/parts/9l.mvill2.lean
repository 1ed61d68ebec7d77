/-! the model's villages -/
theorem mNw.grow {M M' : jM} {pl pl' : qP} (h : mNw M pl) (hN : qn pl < 6) (w : qWf pl') (ew : qw pl' = qw pl) (eh : qh pl' = qh pl) (en : qn pl' = qn pl + 1) (em : ∀ k, qMost pl' k = qMost pl k) (el : ∀ k, qLeast pl' k = qLeast pl k) (ep : ∀ k, qPrice pl' k = qPrice pl k) (es : ∀ v, v < qn pl → qSide pl' v = qSide pl v) (ek : ∀ v, v < qn pl → (qk pl').testBit v = (qk pl).testBit v) (eli : ∀ v s, v < qn pl → qLine pl' v s = qLine pl v s) (enm : ∀ v, v < qn pl → qName pl' v = qName pl v)
    (fr : ∀ k, k ≠ 1650 → k ≠ 1726 + qn pl → k ≠ 1732 + qn pl → (k < 1738 + 9 * qn pl ∨ 1738 + 9 * qn pl + 9 ≤ k) → M'.1 5 k = M.1 5 k) (h0 : M'.1 5 1650 = nI (qn pl + 1)) (h1 : M'.1 5 (1726 + qn pl) = nI (qSide pl' (qn pl))) (h2 : M'.1 5 (1732 + qn pl) = jb ((qk pl').testBit (qn pl))) (h3 : (qk pl').testBit (qn pl) = true → ∀ s, s < qSt pl' (qn pl) → M'.1 5 (1738 + 9 * qn pl + s) = nI (qLine pl' (qn pl) s)) (h6 : ∀ v, v < qn pl → M'.2 6 (24 + v) = M.2 6 (24 + v)) (h7 : M'.2 6 (24 + qn pl) = qName pl' (qn pl)) : mNw M' pl' := by
  obtain ⟨p, nm, z⟩ := h
  refine ⟨⟨?_, ?_, ?_, fun k hk => ?_, fun k hk => ?_, fun k hk => ?_, fun v hv => ?_, fun v hv => ?_, fun v s hv hk hs => ?_, w⟩, fun v hv => ?_, ?_⟩
  · show M'.1 5 1648 = _
    rw [fr _ (by omega) (by omega) (by omega) (by omega), ew]; exact p.w
  · show M'.1 5 1649 = _
    rw [fr _ (by omega) (by omega) (by omega) (by omega), eh]; exact p.h
  · show M'.1 5 1650 = _
    rw [en]; exact h0
  · show M'.1 5 (1648 + (3 + k)) = _
    rw [fr _ (by omega) (by omega) (by omega) (by omega), em]; exact p.most hk
  · show M'.1 5 (1648 + (28 + k)) = _
    rw [fr _ (by omega) (by omega) (by omega) (by omega), el]; exact p.least hk
  · show M'.1 5 (1648 + (53 + k)) = _
    rw [fr _ (by omega) (by omega) (by omega) (by omega), ep]; exact p.price hk
  · show M'.1 5 (1648 + (78 + v)) = _
    by_cases e : v = qn pl
    · rw [e, show 1648 + (78 + qn pl) = 1726 + qn pl by omega]; exact h1
    · rw [fr _ (by omega) (by omega) (by omega) (by omega), es v (by omega)]; exact p.side (by omega)
  · show M'.1 5 (1648 + (84 + v)) = _
    by_cases e : v = qn pl
    · rw [e, show 1648 + (84 + qn pl) = 1732 + qn pl by omega]; exact h2
    · rw [fr _ (by omega) (by omega) (by omega) (by omega), ek v (by omega)]; exact p.has (by omega)
  · have s9 := qSt_le w v
    show M'.1 5 (1648 + (90 + (v * 9 + s))) = _
    by_cases e : v = qn pl
    · rw [e] at hk hs ⊢
      rw [show 1648 + (90 + (qn pl * 9 + s)) = 1738 + 9 * qn pl + s by omega]; exact h3 hk s hs
    · have v6 : v < qn pl := by omega
      have st : qSt pl' v = qSt pl v := by unfold qSt; rw [ew, eh, es v v6]
      rw [ek v v6] at hk
      rw [st] at hs s9
      rw [fr _ (by omega) (by omega) (by omega) (by omega), eli v s v6]; exact p.line v6 hk hs
  · by_cases e : v = qn pl
    · rw [e]; exact h7
    · rw [h6 v (by omega), enm v (by omega)]; exact nm v (by omega)
  · rw [fr _ (by omega) (by omega) (by omega) (by omega)]; exact z
theorem rEnd.bad {α : Type} {M : jM} {f : Nat → Int32} {n : Nat} {r : qE (Nat × α)} {Q Q' : α → Prop} (h : rEnd M f n r Q) (hb : ¬ M.1 0 12 = 0) : rEnd M f n r Q' := by
  cases r with
  | inl e => exact h
  | inr p =>
    obtain ⟨t, h1, h2, h3, h4, h5⟩ := h
    exact absurd h4 hb
theorem rEnd.put {α : Type} {M : jM} {f : Nat → Int32} {n : Nat} {r : qE (Nat × α)} {Q Q' : α → Prop} {j : Nat} {v : Int32} (h : rEnd M f n r Q) (hq : ∀ p, r = .inr p → Q p.2 → Q' p.2) : rEnd (jrI M 5 (upd (M.1 5) j v)) f n r Q' := by
  have e0 : (jrI M 5 (upd (M.1 5) j v)).1 0 = M.1 0 := jrI_n (by omega)
  cases r with
  | inl e =>
    rcases h with h | ⟨t, h1, h2, h3, h4⟩
    · refine Or.inl ⟨h.1, ?_, ?_⟩
      · rw [e0]; exact h.2.1
      · rw [e0]; exact h.2.2
    · exact Or.inr ⟨t, h1.put, by rw [e0]; exact h2, h3, h4⟩
  | inr p =>
    obtain ⟨t, h1, h2, h3, h4, h5⟩ := h
    exact ⟨t, h1, h2, h3.put, by rw [e0]; exact h4, hq p rfl h5⟩
theorem mRt.putL {M : jM} {f : Nat → Int32} {n a : Nat} {v : Nat → Int64} (h : mRt M f n a) : mRt (jrL M 6 v) f n a := by
  have e : (jrL M 6 v).2 0 = M.2 0 := jrL_n (by omega)
  obtain ⟨t, ⟨r1, r2, r3, r4, r5, r6⟩, le⟩ := h
  exact ⟨t, ⟨r1, r2, r3, r4, r5, fun u => ⟨by rw [e]; exact (r6 u).1, (r6 u).2⟩⟩, le⟩
theorem mSame.putL {M : jM} {j : Nat} {v : Int64} (hj : 24 ≤ j) : mSame M (jrL M 6 (vp_updL (M.2 6) j v)) := ⟨fun q _ _ _ q6 => ⟨rfl, jrL_n q6⟩, fun _ _ => rfl, fun _ _ => by rw [jrL_n (by omega)], fun _ _ => rfl, fun k hk => by rw [jrL_s, pk_uLn (by omega)]⟩
theorem nI_nneg {v : Nat} (h : v < 2 ^ 31) : ¬ nI v < 0 := by
  rw [Int32.lt_iff_toInt_lt, nI_toInt h]
  exact Int.not_lt.mpr (Int.natCast_nonneg _)
section MV2
variable {x : jX} {d : Nat} {M : jM} {f : Nat → Int32} {n a : Nat} {pl : qP}
theorem m_readVillage {P : jM → Prop} (h0 : M.1 0 12 = 0) (hr : mRt M f n a) (hk : yK f n a = 2) (hp : mNw M pl) (w1 : 1 ≤ qw pl) (h1 : 1 ≤ qh pl)
    (h : ∀ M', mSame M M' → rEnd M' f n (pVill f n a pl) (fun pl' => mNw M' pl' ∧ ∀ k, 19 ≤ k → k ≤ 21 → M'.1 0 k = M.1 0 k) → P M') : JC x jtbM mX12_readVillage (d + 4) [.ref (x.2.2.2 0)] M (jV P) := by
  have wf := hp.1.wf
  have six := wf.2.2.2.1
  have en : M.1 5 1650 = nI (qn pl) := hp.1.n
  have ew : M.1 5 1648 = nI (qw pl) := hp.1.w
  have eh : M.1 5 1649 = nI (qh pl) := hp.1.h
  unfold pVill at h
  refine b_X12_readVillage (d := d + 3) ?_
  have e6 : nI (qn pl) = (6 : Int32) ↔ qn pl = 6 := nI_eq (b := 6) (by omega) (by omega)
  rw [en, e6]
  refine ⟨fun ne => ?_, fun e => m_failAt h0 hr.2.1 (by decide) (by omega) (fun M1 b => b_X12_readVillage_25 ⟨fun u => absurd u b.2.le, fun _ => h M1 b.1 (by rw [if_pos (by omega)]; exact Or.inl b.2)⟩)⟩
  rw [if_neg (show ¬ 6 ≤ qn pl by omega)] at h
  refine b_X12_readVillage_25 ⟨fun _ => m_go hr (fun M1 k1 r1 => m_isName r1 ⟨fun yn => ?_, fun nn => ?_⟩), fun u => absurd (by rw [h0]; decide) u⟩
  · rw [if_pos yn] at h
    obtain ⟨y2, y8, y26⟩ := of_decide_eq_true (show decide (yK f n (yX f n a) = 2 ∧ yLt f n (yX f n a) ≤ 8 ∧ yI f n (yX f n a) = 26) = true from yn)
    have wd : M1.2 0 22 = lN (yV f n (yX f n a)) := by rw [(r1.2.1.2.2.2.2.2 y2).1, if_pos y8]
    refine b_X12_readVillage_48 ⟨fun u => absurd (k1.ok h0) u, fun _ => m_named (b := 4) (g := qName pl) (by omega) six (fun v hv => by rw [(k1.1 6 (by omega)).2]; exact hp.2.1 v hv) wd (fun no => ?_) (fun v hv e _ => ?_)⟩
    · have nlt : ¬ qNm pl (lN (yV f n (yX f n a))) < qn pl := fun u => by
        obtain ⟨v, hv, e⟩ := qFst_lt.mp u
        exact no v hv (of_decide_eq_true e)
      rw [if_neg nlt] at h
      refine ⟨fun _ => b_X12_readVillage_73 ⟨fun _ => ⟨24 + qn pl, by omega, by rw [show (24 : Int32) = nI 24 from rfl, nI_add], fun M2 e2 => ?_⟩, fun u => absurd (by rw [k1.ok h0]; decide) u⟩, fun u => absurd (by decide) u⟩
      rw [wd] at e2
      have r2 : mRt M2 f n (yX f n a) := by rw [e2]; exact r1.putL
      have s2 : mSame M M2 := by rw [e2]; exact k1.same.tr (mSame.putL (by omega))
      have ok2 : M2.1 0 12 = 0 := by rw [e2]; exact k1.ok h0
      refine m_go r2 (fun M3 k3 r3 => m_sideWord r3 ?_)
      have s3 : mSame M M3 := s2.tr k3.same
      have ok3 := k3.ok ok2
      by_cases sd : 18 ≤ yI f n (yX f n (yX f n a)) ∧ yI f n (yX f n (yX f n a)) < 26
      · rw [if_pos sd]
        rw [if_pos sd] at h
        refine ⟨fun u => absurd u (nI_nneg (by omega)), fun _ => b_X12_readVillage_113 (m_must (b := true) ok3 r3 (fun _ M4 k4 r4 => ?_) (fun u => (by cases u)))⟩
        have ok4 := k4.ok ok3
        generalize hS : yI f n (yX f n (yX f n a)) - 18 = S at h ⊢
        have hS8 : S < 8 := by omega
        generalize hA : yX f n (yX f n (yX f n a)) = A at h r4
        generalize hW : lN (yV f n (yX f n a)) = W at h e2
        have wv := pVilAdd_wf (nm := W) (side := S) wf w1 (by omega) hS8
        refine ⟨fun _ => ⟨1726 + qn pl, by omega, by rw [show (1726 : Int32) = nI 1726 from rfl, nI_add], fun M5 e5 => ?_⟩, fun u => absurd (by rw [ok4]; decide) u⟩
        have r5 : mRt M5 f n A := by rw [e5]; exact r4.put
        have s5 : mSame M M5 := by rw [e5]; exact (s3.tr k4.same).tr (mYq.put (by omega)).1
        have ok5 : M5.1 0 12 = 0 := by rw [e5, jrI_n (by omega)]; exact ok4
        -- what row 5 and row 6 and the slots hold at M5
        have q5 : ∀ k, k ≠ 1726 + qn pl → M5.1 5 k = M.1 5 k := fun k hk' => by rw [e5, jrI_s, pk_un hk', k4.r5, k3.r5, e2]; show M1.1 5 k = _; rw [k1.r5]
        have q5s : M5.1 5 (1726 + qn pl) = nI S := by rw [e5, jrI_s, pk_us]
        have n5 : M5.2 6 = vp_updL (M.2 6) (24 + qn pl) W := by rw [e5]; show M4.2 6 = _; rw [(k4.1 6 (by omega)).2, (k3.1 6 (by omega)).2, e2, jrL_s, (k1.1 6 (by omega)).2]
        have l5 : ∀ k, 19 ≤ k → k ≤ 21 → M5.1 0 k = M.1 0 k := fun k g1 g2 => by rw [e5, jrI_n (by omega), k4.2.1 k (by omega), k3.2.1 k (by omega), e2]; show M1.1 0 k = _; rw [k1.2.1 k (by omega)]
        have t0 : (qk pl).testBit (qn pl) = false := Nat.testBit_lt_two_pow wf.2.2.2.2.1
        refine m_isSees r5 ⟨fun ns => ?_, fun ys => ?_⟩
        · refine b_X12_readVillage_156 ⟨1732 + qn pl, by omega, by rw [show (1732 : Int32) = nI 1732 from rfl, nI_add], fun M6 e6 => ?_⟩
          have r6 : mRt M6 f n A := by rw [e6]; exact r5.put
          have s6 : mSame M M6 := by rw [e6]; exact s5.tr (mYq.put (by omega)).1
          have ok6 : M6.1 0 12 = 0 := by rw [e6, jrI_n (by omega)]; exact ok5
          refine m_isSees r6 ⟨fun _ => b_X12_readVillage_200 ⟨fun u => absurd ok6 u, fun _ M7 e7 => ?_⟩, fun u => absurd (u.symm.trans ns) (by decide)⟩
          have n50 : M6.1 5 1650 = nI (qn pl) := by rw [e6, jrI_s, pk_un (by omega), q5 _ (by omega)]; exact en
          rw [n50, show (1 : Int32) = nI 1 from rfl, nI_add] at e7
          have s7 : mSame M M7 := by rw [e7]; exact s6.tr (mYq.put (by omega)).1
          have r7 : mRt M7 f n A := by rw [e7]; exact r6.put
          have ok7 : M7.1 0 12 = 0 := by rw [e7, jrI_n (by omega)]; exact ok6
          have nw7 : mNw M7 (pVilAdd pl W S) := by
            refine hp.grow (by omega) wv rfl rfl rfl (fun k => rfl) (fun k => rfl) (fun k => rfl) (fun v hv => ?_) (fun v hv => rfl) (fun v s hv => vil_line) (fun v hv => ?_) (fun k g1 g2 g3 g4 => ?_) ?_ ?_ ?_ (fun u => ?_) (fun v hv => ?_) ?_
            · show tset (pl.2.1 3) (qn pl) S v = _
              unfold tset; rw [if_neg (by omega)]; rfl
            · show (if v = qn pl then W else pl.2.2 v) = _
              rw [if_neg (by omega)]; rfl
            · rw [e7, jrI_s, pk_un g1, e6, jrI_s, pk_un g3, q5 k g2]
            · rw [e7, jrI_s, pk_us]
            · rw [e7, jrI_s, pk_un (by omega), e6, jrI_s, pk_un (by omega), q5s]
              show _ = nI (tset (pl.2.1 3) (qn pl) S (qn pl))
              unfold tset; rw [if_pos rfl]
            · rw [e7, jrI_s, pk_un (by omega), e6, jrI_s, pk_us]
              show _ = jb ((qk pl).testBit (qn pl))
              rw [t0]; rfl
            · have u' : (qk pl).testBit (qn pl) = true := u
              rw [t0] at u'; cases u'
            · rw [e7]
              show M6.2 6 (24 + v) = _
              rw [e6]
              show M5.2 6 (24 + v) = _
              rw [n5, pk_uLn (by omega)]
            · rw [e7]
              show M6.2 6 (24 + qn pl) = _
              rw [e6]
              show M5.2 6 (24 + qn pl) = _
              rw [n5, pk_uLs]
              show W = if qn pl = qn pl then W else pl.2.2 (qn pl)
              rw [if_pos rfl]
          refine h M7 s7 ?_
          unfold pSees
          rw [if_neg (of_decide_eq_false ns)]
          by_cases sm : yK f n A = 4 ∧ yG f n A = 59
          · rw [if_pos sm]
            refine ⟨A, rfl, sm, r7, ok7, nw7, fun k g1 g2 => ?_⟩
            rw [e7, jrI_n (by omega), e6, jrI_n (by omega)]; exact l5 k g1 g2
          · rw [if_neg sm]
            exact Or.inr ⟨A, r7, ok7, sm, rfl⟩
        · refine b_X12_readVillage_156 ⟨1732 + qn pl, by omega, by rw [show (1732 : Int32) = nI 1732 from rfl, nI_add], fun M6 e6 => ?_⟩
          have r6 : mRt M6 f n A := by rw [e6]; exact r5.put
          have s6 : mSame M M6 := by rw [e6]; exact s5.tr (mYq.put (by omega)).1
          have ok6 : M6.1 0 12 = 0 := by rw [e6, jrI_n (by omega)]; exact ok5
          refine m_isSees r6 ⟨fun u => absurd (u.symm.trans ys) (by decide), fun _ => ?_⟩
          rw [show M6.1 5 1648 = nI (qw pl) by rw [e6, jrI_s, pk_un (by omega), q5 _ (by omega)]; exact ew, show M6.1 5 1649 = nI (qh pl) by rw [e6, jrI_s, pk_un (by omega), q5 _ (by omega)]; exact eh]
          refine k_mStripsOf hS8 w1 ?_
          have sp : 1 ≤ qS (qw pl) (qh pl) S := by
            rcases (show S = 0 ∨ S = 1 ∨ S = 2 ∨ S = 3 ∨ S = 4 ∨ S = 5 ∨ S = 6 ∨ S = 7 by omega) with e | e | e | e | e | e | e | e <;> rw [e] <;> simp only [qS] <;> simp (decide := true) only [if_true, if_false] <;> omega
          have sV : qSide (pVilAdd pl W S) (qn pl) = S := by
            show tset (pl.2.1 3) (qn pl) S (qn pl) = S
            unfold tset; rw [if_pos rfl]
          have stV : qSt (pVilAdd pl W S) (qn pl) = qS (qw pl) (qh pl) S := by
            unfold qSt; rw [sV]; rfl
          have s9 : qS (qw pl) (qh pl) S ≤ 9 := by rw [← stV]; exact qSt_le wv _
          rw [show (1738 : Int32) + 9 * nI (qn pl) = nI (1738 + 9 * qn pl + 0) by rw [show (9 : Int32) = nI 9 from rfl, pk_mul, show (1738 : Int32) = nI 1738 from rfl, nI_add, Nat.add_zero]]
          refine m_readRow (lo := 0) (B := 1738 + 9 * qn pl) (g := (pVilAdd pl W S).2.1 (4 + qn pl)) (by omega) sp (by omega) (by omega) ok6 r6 (fun M7 s7 E => ?_)
          have s7' := s6.tr s7
          unfold pSees at h
          rw [if_pos (of_decide_eq_true ys), stV] at h
          refine b_X12_readVillage_200 ⟨fun nb => h M7 s7' (rEnd_map (E.bad nb)), fun ok7 M8 e8 => ?_⟩
          refine h M8 (by rw [e8]; exact s7'.tr (mYq.put (by omega)).1) (rEnd_map ?_)
          have main : ∀ p, rRow f n 0 0 (qS (qw pl) (qh pl) S) (yX f n A) 0 ((pVilAdd pl W S).2.1 (4 + qn pl)) = .inr p → ((∀ k, 0 ≤ k → k < 0 + qS (qw pl) (qh pl) S → M7.1 5 (1738 + 9 * qn pl + k) = nI (p.2 k)) ∧ (∀ k, (k < 1738 + 9 * qn pl + 0 ∨ 1738 + 9 * qn pl + 0 + qS (qw pl) (qh pl) S ≤ k) → M7.1 5 k = M6.1 5 k) ∧ mYq M6 M7) → mNw M8 (pSkyAdd (pVilAdd pl W S) (qn pl) p.2) ∧ ∀ k, 19 ≤ k → k ≤ 21 → M8.1 0 k = M.1 0 k := by
            rintro p hp' ⟨g1, g2, g3⟩
            obtain ⟨o1, o2, o3, o4⟩ := rRow_ok _ (yX_le r6.2.2) (show rRow f n 0 0 (qS (qw pl) (qh pl) S) (yX f n A) 0 ((pVilAdd pl W S).2.1 (4 + qn pl)) = .inr (p.1, p.2) from hp')
            have wS : qWf (pSkyAdd (pVilAdd pl W S) (qn pl) p.2) := pSkyAdd_wf wv (show qn pl < qn pl + 1 by omega) (fun k => by
              by_cases q : k < 0 + 0 ∨ 0 + 0 + qS (qw pl) (qh pl) S ≤ k
              · rw [o3 k q]; exact wv.2.2.2.2.2.2.2.2.2.2 (qn pl) k
              · exact (o4 k (by omega) (by omega)).2)
            have n50 : M7.1 5 1650 = nI (qn pl) := by rw [g2 _ (by omega), e6, jrI_s, pk_un (by omega), q5 _ (by omega)]; exact en
            rw [n50, show (1 : Int32) = nI 1 from rfl, nI_add] at e8
            have tv : ∀ v, (qk pl ||| 2 ^ qn pl).testBit v = ((qk pl).testBit v || decide (qn pl = v)) := fun v => by rw [Nat.testBit_or, Nat.testBit_two_pow]
            refine ⟨hp.grow (by omega) wS rfl rfl rfl (fun k => sky_most) (fun k => sky_least) (fun k => sky_price) (fun v hv => ?_) (fun v hv => ?_) (fun v s hv => ?_) (fun v hv => ?_) (fun k f1 f2 f3 f4 => ?_) ?_ ?_ ?_ (fun u s hs => ?_) (fun v hv => ?_) ?_, fun k f1 f2 => ?_⟩
            · rw [sky_side]
              show tset (pl.2.1 3) (qn pl) S v = _
              unfold tset; rw [if_neg (by omega)]; rfl
            · show (qk pl ||| 2 ^ qn pl).testBit v = _
              rw [tv, decide_eq_false (by omega), Bool.or_false]
            · show (if 4 + v = 4 + qn pl then p.2 else (pVilAdd pl W S).2.1 (4 + v)) s = _
              rw [if_neg (by omega)]; exact vil_line
            · show (if v = qn pl then W else pl.2.2 v) = _
              rw [if_neg (by omega)]; rfl
            · rw [e8, jrI_s, pk_un f1, g2 k (by omega), e6, jrI_s, pk_un f3, q5 k f2]
            · rw [e8, jrI_s, pk_us]
            · rw [e8, jrI_s, pk_un (by omega), g2 _ (by omega), e6, jrI_s, pk_un (by omega), q5s, sky_side, sV]
            · rw [e8, jrI_s, pk_un (by omega), g2 _ (by omega), e6, jrI_s, pk_us]
              show _ = jb ((qk pl ||| 2 ^ qn pl).testBit (qn pl))
              rw [tv, decide_eq_true rfl, Bool.or_true]; rfl
            · rw [sky_st, stV] at hs
              rw [e8, jrI_s, pk_un (by omega), g1 s (by omega) (by omega)]
              show _ = nI ((if 4 + qn pl = 4 + qn pl then p.2 else (pVilAdd pl W S).2.1 (4 + qn pl)) s)
              rw [if_pos rfl]
            · rw [e8]
              show M7.2 6 (24 + v) = _
              rw [g3.2.1, e6]
              show M5.2 6 (24 + v) = _
              rw [n5, pk_uLn (by omega)]
            · rw [e8]
              show M7.2 6 (24 + qn pl) = _
              rw [g3.2.1, e6]
              show M5.2 6 (24 + qn pl) = _
              rw [n5, pk_uLs]
              show W = if qn pl = qn pl then W else pl.2.2 (qn pl)
              rw [if_pos rfl]
            · rw [e8, jrI_n (by omega), g3.2.2 k f1 f2, e6, jrI_n (by omega)]; exact l5 k f1 f2
          rw [e8] at main ⊢
          exact E.put main
      · rw [if_neg sd]
        rw [if_neg sd] at h
        refine ⟨fun _ => b_X12_readVillage_113 (m_must (b := false) ok3 r3 (fun u => (by cases u)) (fun _ M4 b => ⟨fun u => absurd u b.2.le, fun _ => h M4 (s3.tr b.1) (Or.inl b.2)⟩)), fun u => absurd (by decide) u⟩
    · have lt : qNm pl (lN (yV f n (yX f n a))) < qn pl := qFst_lt.mpr ⟨v, hv, decide_eq_true e⟩
      rw [if_pos lt] at h
      exact ⟨fun u => absurd u (nI_nneg (by omega)), fun _ => m_failAt (k1.ok h0) r1.2.1 (by decide) (by omega) (fun M2 b => b_X12_readVillage_73 ⟨fun u => absurd u b.2.le, fun _ => h M2 (k1.same.tr b.1) (Or.inl b.2)⟩)⟩
  · rw [if_neg (by rw [nn]; decide)] at h
    exact m_wrong (k1.ok h0) r1.2.1 (fun M2 b => b_X12_readVillage_48 ⟨fun _ => b_X12_readVillage_73 ⟨fun u => absurd u b.2.le, fun _ => h M2 (k1.same.tr b.1) (Or.inl b.2)⟩, fun u => absurd u b.2.ne⟩)
end MV2
