/-! the model's steps: what stands behind their first word -/
section MRS
variable {x : jX} {d : Nat} {M : jM} {f : Nat → Int32} {n a W k : Nat} {pl : qP} {g : Nat → Int32}
theorem m_restCell {P : jM → Prop} (hk : k = 6 ∨ k = 7) (g0 : g 0 = nI k) (hW : 1648 ≤ W) (hW2 : W + 8 ≤ 2060) (hp : mPl (M.1 5) pl) (h0 : M.1 0 12 = 0) (hr : mRt M f n a) (hc : M.1 5 W = mKd (nI k))
    (h1 : ∀ p, eB (pCell f n a pl g) (fun a1 g1 => pBy f n a1 g1) = .inr p → ∀ M', uR (fun q => W < q ∧ q < W + 7) M M' → mRt M' f n p.1 → M'.1 0 12 = 0 → mBdy (M'.1 5) pl p.2 W → P M')
    (h2 : ∀ e, eB (pCell f n a pl g) (fun a1 g1 => pBy f n a1 g1) = .inl e → ∀ M', mSame M M' → mBd M' e → P M') : JW x jtbM mX12_readRest (d + 5) (jV P) 16 [(0, .ref (x.2.2.2 0)), (1, .int (nI W))] [] M := by
  have w5 := hp.wf.1
  have h5 := hp.wf.2.1
  have a1 : nI W + 1 = nI (W + 1) := nI_1 W
  have a2 : nI W + 2 = nI (W + 2) := by rw [show (2 : Int32) = nI 2 from rfl, nI_add]
  have a3 : nI W + 3 = nI (W + 3) := by rw [show (3 : Int32) = nI 3 from rfl, nI_add]
  refine b_X12_readRest_16 (d := d + 4) ?_
  rw [hp.w]
  refine m_countC w5 h0 hr (fun b1 X e1 M1 k1 r1 => ⟨W + 1, by omega, a1, fun M2 e2 => ?_⟩) (fun e e1 M1 b1 => ⟨W + 1, by omega, a1, fun M2 e2 => ?_⟩)
  · have r2 : mRt M2 f n b1 := by rw [e2]; exact r1.put
    have ok2 : M2.1 0 12 = 0 := by rw [e2]; exact ok_put (k1.ok h0)
    have u2 : uR (fun k => W < k ∧ k < W + 7) M M2 := by rw [e2]; exact k1.u.tr (uR.put (by omega) ⟨by omega, by omega⟩)
    rw [(hp.sm u2.1).h]
    refine m_countC h5 ok2 r2 (fun b3 Y e3 M3 k3 r3 => ⟨W + 2, by omega, a2, fun M4 e4 => ⟨W + 3, by omega, a3, fun M5 e5 => ?_⟩⟩) (fun e e3 M3 b3 => ⟨W + 2, by omega, a2, fun M4 e4 => ⟨W + 3, by omega, a3, fun M5 e5 => ?_⟩⟩)
    · have ec : pCell f n a pl g = .inr (b3, aSet g 2 (nI (Y * qw pl + X))) := by
        unfold pCell; rw [e1, eB_r]; dsimp only; rw [e3]; rfl
      have r5 : mRt M5 f n b3 := by rw [e5, e4]; exact r3.put.put
      have ok5 : M5.1 0 12 = 0 := by rw [e5, e4]; exact ok_put (ok_put (k3.ok ok2))
      have u5 : uR (fun k => W < k ∧ k < W + 7) M M5 := by rw [e5, e4]; exact ((u2.tr k3.u).tr (uR.put (by omega) ⟨by omega, by omega⟩)).tr (uR.put (by omega) ⟨by omega, by omega⟩)
      have xl := (tkC_ok hr.2.2 e1).2.2
      have yl := (tkC_ok r2.2.2 e3).2.2
      have x1 : M5.1 5 (W + 1) = nI X := by rw [e5, jrI_s, pk_un (by omega), e4, jrI_s, pk_un (by omega), k3.r5, e2, jrI_s, pk_us]
      have x2 : M5.1 5 (W + 2) = nI Y := by rw [e5, jrI_s, pk_un (by omega), e4, jrI_s, pk_us]
      have x3 : M5.1 5 (W + 3) = 1 := by rw [e5, jrI_s, pk_us]
      rw [ec, eB_r] at h1 h2
      dsimp only at h1 h2
      -- what the fields tell
      have body : ∀ (M' : jM) (q : Nat → Int32), M'.1 5 W = M5.1 5 W → M'.1 5 (W + 1) = nI X → M'.1 5 (W + 2) = nI Y → M'.1 5 (W + 3) = q 5 → (∀ j, j ≠ 5 → q j = aSet g 2 (nI (Y * qw pl + X)) j) → mBdy (M'.1 5) pl q W := fun M' q y0 y1 y2 y3 gk => by
        have t : q 0 = nI k := by rw [gk 0 (by omega), aSet_n (by omega)]; exact g0
        refine ⟨by rw [t, y0, u5.2.1 W (by omega)]; exact hc, fun _ => ⟨⟨X, Y, xl, yl, by rw [gk 2 (by omega), aSet_s], y1, y2⟩, y3⟩, fun u => ?_, fun u => ?_⟩
        · rw [t] at u
          rcases hk with rfl | rfl <;> rcases u with u | u <;> exact absurd u (by decide)
        · rw [t] at u
          rcases hk with rfl | rfl <;> exact absurd u (by decide)
      unfold pBy at h1 h2
      refine ⟨fun u => absurd ok5 u, fun _ => m_isBy r5 ⟨fun nb => ?_, fun yb => m_go r5 (fun M6 k6 r6 => ?_)⟩⟩
      · rw [if_neg (of_decide_eq_false nb)] at h1
        exact h1 _ rfl M5 u5 r5 ok5 (body M5 _ rfl x1 x2 (x3.trans (aSet_s (g := aSet g 2 (nI (Y * qw pl + X))) (k := 5)).symm) (fun j hj => aSet_n hj))
      · rw [if_pos (of_decide_eq_true yb)] at h1 h2
        refine m_count (lo := 1) (hi := 99) (by omega) (by omega) (k6.ok ok5) r6 (fun a7 v e7 M7 k7 r7 => ?_) (fun e e7 M7 b7 => ?_)
        · intro M8 e8
          refine h1 (a7, aSet (aSet (aSet g 2 (nI (Y * qw pl + X))) 5 1) 5 (nI v)) (by unfold pNum; rw [e7]; rfl) M8 ?_ (by rw [e8]; exact r7.put) (by rw [e8]; exact ok_put (k7.ok (k6.ok ok5))) (body M8 _ ?_ ?_ ?_ ?_ (fun j hj => ?_))
          · rw [e8]; exact ((u5.tr k6.u).tr k7.u).tr (uR.put (by omega) ⟨by omega, by omega⟩)
          · rw [e8, jrI_s, pk_un (by omega), k7.r5, k6.r5]
          · rw [e8, jrI_s, pk_un (by omega), k7.r5, k6.r5]; exact x1
          · rw [e8, jrI_s, pk_un (by omega), k7.r5, k6.r5]; exact x2
          · rw [e8, jrI_s, pk_us]; dsimp only; rw [aSet_s]
          · dsimp only; rw [aSet_n hj, aSet_n hj]
        · intro M8 e8
          exact h2 e (by unfold pNum; rw [e7]; rfl) M8 (by rw [e8]; exact ((u5.1.tr k6.same).tr b7.1).tr (mYq.put (by omega)).1) (by rw [e8]; exact b7.2.put)
    · have ec : pCell f n a pl g = .inl e := by
        unfold pCell; rw [e1, eB_r]; dsimp only; rw [e3]; rfl
      have b5 : mBd M5 e := by rw [e5, e4]; exact b3.2.put.put
      refine ⟨fun _ => h2 e (by rw [ec]; rfl) M5 ?_ b5, fun u => absurd u b5.ne⟩
      rw [e5, e4]; exact ((u2.1.tr b3.1).tr (mYq.put (by omega)).1).tr (mYq.put (by omega)).1
  · have ec : pCell f n a pl g = .inl e := by unfold pCell; rw [e1]; rfl
    have b2 : mBd M2 e := by rw [e2]; exact b1.2.put
    have s2 : mSame M M2 := by rw [e2]; exact b1.1.tr (mYq.put (by omega)).1
    refine m_countB b2 ⟨W + 2, by omega, a2, fun M4 e4 => ⟨W + 3, by omega, a3, fun M5 e5 => ?_⟩⟩
    have b5 : mBd M5 e := by rw [e5, e4]; exact b2.put.put
    refine ⟨fun _ => h2 e (by rw [ec]; rfl) M5 ?_ b5, fun u => absurd u b5.ne⟩
    rw [e5, e4]; exact (s2.tr (mYq.put (by omega)).1).tr (mYq.put (by omega)).1
theorem m_readRest {P : jM → Prop} (hk : k = 6 ∨ k = 7 ∨ k = 9 ∨ k = 10 ∨ k = 15 ∨ k = 17) (g0 : g 0 = nI k) (hW : 1648 ≤ W) (hW2 : W + 8 ≤ 2060) (hp : mPl (M.1 5) pl) (hn : ∀ v, v < qn pl → M.2 6 v = qName pl v) (h0 : M.1 0 12 = 0) (hr : mRt M f n a) (hc : M.1 5 W = mKd (nI k))
    (h1 : ∀ p, pRest f n a pl k g = .inr p → ∀ M', uR (fun q => W < q ∧ q < W + 7) M M' → mRt M' f n p.1 → M'.1 0 12 = 0 → mBdy (M'.1 5) pl p.2 W → P M')
    (h2 : ∀ e, pRest f n a pl k g = .inl e → ∀ M', mSame M M' → mBd M' e → P M') : JC x jtbM mX12_readRest (d + 6) [.ref (x.2.2.2 0), .int (nI W)] M (jV P) := by
  unfold pRest at h1 h2
  have a3 : nI W + 3 = nI (W + 3) := by rw [show (3 : Int32) = nI 3 from rfl, nI_add]
  have num : (k = 9 ∨ k = 15) → JW x jtbM mX12_readRest (d + 6) (jV P) 113 [(0, .ref (x.2.2.2 0)), (1, .int (nI W))] [] M := fun kk => by
    rw [if_neg (by omega), if_pos kk] at h1 h2
    refine b_X12_readRest_113 (d := d + 5) (m_count (lo := 1) (hi := 99) (by omega) (by omega) h0 hr (fun a1 v e1 M1 k1 r1 => ⟨W + 3, by omega, a3, fun M2 e2 => ?_⟩) (fun e e1 M1 b1 => ⟨W + 3, by omega, a3, fun M2 e2 => ?_⟩))
    · have t : aSet g 5 (nI v) 0 = nI k := by rw [aSet_n (by omega)]; exact g0
      refine h1 (a1, aSet g 5 (nI v)) (by unfold pNum; rw [e1]; rfl) M2 (by rw [e2]; exact k1.u.tr (uR.put (by omega) ⟨by omega, by omega⟩)) (by rw [e2]; exact r1.put) (by rw [e2]; exact ok_put (k1.ok h0)) ?_
      have c0 : M2.1 5 W = mKd (nI k) := by rw [e2, jrI_s, pk_un (by omega), k1.r5]; exact hc
      have c3 : M2.1 5 (W + 3) = nI v := by rw [e2, jrI_s, pk_us]
      refine ⟨by show _ = mKd (aSet g 5 (nI v) 0); rw [t]; exact c0, fun u => ?_, fun _ => by show _ = aSet g 5 (nI v) 5; rw [aSet_s]; exact c3, fun u => ?_⟩
      · have u' : aSet g 5 (nI v) 0 = 6 ∨ aSet g 5 (nI v) 0 = 7 := u
        rw [t] at u'
        rcases kk with rfl | rfl <;> rcases u' with u | u <;> exact absurd u (by decide)
      · have u' : aSet g 5 (nI v) 0 = 10 := u
        rw [t] at u'
        rcases kk with rfl | rfl <;> exact absurd u' (by decide)
    · exact h2 e (by unfold pNum; rw [e1]; rfl) M2 (by rw [e2]; exact b1.1.tr (mYq.put (by omega)).1) (by rw [e2]; exact b1.2.put)
  have cel : (k = 6 ∨ k = 7) → JW x jtbM mX12_readRest (d + 6) (jV P) 16 [(0, .ref (x.2.2.2 0)), (1, .int (nI W))] [] M := fun kk => by
    rw [if_pos kk] at h1 h2
    exact m_restCell kk g0 hW hW2 hp h0 hr hc h1 h2
  refine b_X12_readRest (d := d + 5) ⟨W, by omega, rfl, ?_⟩
  rw [hc]
  rcases hk with rfl | rfl | rfl | rfl | rfl | rfl
  · exact ⟨fun _ => cel (by omega), fun u => absurd (by decide) u⟩
  · exact ⟨fun u => absurd u (by decide), fun _ => ⟨fun u => absurd (by decide) u, fun _ => cel (by omega)⟩⟩
  · exact ⟨fun u => absurd u (by decide), fun _ => ⟨fun _ => ⟨fun _ => num (by omega), fun u => absurd (by decide) u⟩, fun u => absurd u (by decide)⟩⟩
  · refine ⟨fun u => absurd u (by decide), fun _ => ⟨fun _ => ⟨fun u => absurd u (by decide), fun _ => ⟨fun _ => ⟨fun u => absurd (by decide) u, fun _ => ?_⟩, fun u => absurd u (by decide)⟩⟩, fun u => absurd u (by decide)⟩⟩
    rw [if_neg (by omega), if_neg (by omega), if_pos rfl] at h1 h2
    refine m_readTest (g := g) hW hW2 hp hn h0 hr (fun p hp' M' u r ok t gk => h1 p hp' M' u r ok ⟨?_, fun v => ?_, fun v => ?_, fun _ => t⟩) h2
    · rw [gk, g0, u.2.1 W (by omega)]; exact hc
    · rw [gk, g0] at v
      rcases v with v | v <;> exact absurd v (by decide)
    · rw [gk, g0] at v
      rcases v with v | v <;> exact absurd v (by decide)
  · exact ⟨fun u => absurd u (by decide), fun _ => ⟨fun _ => ⟨fun u => absurd u (by decide), fun _ => ⟨fun u => absurd (by decide) u, fun _ => num (by omega)⟩⟩, fun u => absurd u (by decide)⟩⟩
  · refine ⟨fun u => absurd u (by decide), fun _ => ⟨fun _ => ⟨fun u => absurd u (by decide), fun _ => ⟨fun _ => ⟨fun _ => ?_, fun u => absurd u (by decide)⟩, fun u => absurd u (by decide)⟩⟩, fun u => absurd u (by decide)⟩⟩
    rw [if_neg (by omega), if_neg (by omega), if_neg (by omega)] at h1
    refine h1 _ rfl M uR.rf hr h0 ⟨?_, fun v => ?_, fun v => ?_, fun v => ?_⟩
    · show _ = mKd (g 0)
      rw [g0]; exact hc
    · have v' : g 0 = 6 ∨ g 0 = 7 := v
      rw [g0] at v'
      rcases v' with v | v <;> exact absurd v (by decide)
    · have v' : g 0 = 9 ∨ g 0 = 15 := v
      rw [g0] at v'
      rcases v' with v | v <;> exact absurd v (by decide)
    · have v' : g 0 = 10 := v
      rw [g0] at v'
      exact absurd v' (by decide)
end MRS
