/-! the model's tests and steps -/
def mTst (c : Nat → Int32) (pl : qP) (g : Nat → Int32) (w : Nat) : Prop := c (w + 4) = mTs (g 1) ∧ (g 1 = 11 → (∃ X Y, X < qw pl ∧ Y < qh pl ∧ g 2 = nI (Y * qw pl + X) ∧ c (w + 1) = nI X ∧ c (w + 2) = nI Y) ∧ c (w + 5) = g 4 ∧ c (w + 6) = g 5) ∧ (g 1 = 5 → c (w + 1) = g 2 ∧ c (w + 2) = g 3 ∧ c (w + 5) = g 4 ∧ c (w + 6) = g 5) ∧ (g 1 = 13 → c (w + 1) = g 2) ∧ (g 1 = 14 → c (w + 5) = g 4 ∧ c (w + 6) = g 5)
def mBdy (c : Nat → Int32) (pl : qP) (g : Nat → Int32) (w : Nat) : Prop := c w = mKd (g 0) ∧ ((g 0 = 6 ∨ g 0 = 7) → (∃ X Y, X < qw pl ∧ Y < qh pl ∧ g 2 = nI (Y * qw pl + X) ∧ c (w + 1) = nI X ∧ c (w + 2) = nI Y) ∧ c (w + 3) = g 5) ∧ ((g 0 = 9 ∨ g 0 = 15) → c (w + 3) = g 5) ∧ (g 0 = 10 → mTst c pl g w)
theorem eB_r {α β : Type} {p : Nat × α} {k : Nat → α → qE β} : eB (.inr p) k = k p.1 p.2 := rfl
section MTE
variable {x : jX} {d : Nat} {M M' : jM} {f : Nat → Int32} {n a W : Nat} {pl : qP} {g : Nat → Int32}
theorem mPl.sm (h : mPl (M.1 5) pl) (s : mSame M M') : mPl (M'.1 5) pl := h.keep (fun k hk => s.2.2.2.1 k (by omega))
theorem nm_sm (h : ∀ v, v < qn pl → M.2 6 v = qName pl v) (six : qn pl ≤ 6) (s : mSame M M') : ∀ v, v < qn pl → M'.2 6 v = qName pl v := fun v hv => by rw [s.2.2.2.2 v (by omega)]; exact h v hv
theorem m_readTest {P : jM → Prop} (hW : 1648 ≤ W) (hW2 : W + 8 ≤ 2060) (hp : mPl (M.1 5) pl) (hn : ∀ v, v < qn pl → M.2 6 v = qName pl v) (h0 : M.1 0 12 = 0) (hr : mRt M f n a)
    (h1 : ∀ p, pTest f n a pl g = .inr p → ∀ M', uR (fun k => W < k ∧ k < W + 7) M M' → mRt M' f n p.1 → M'.1 0 12 = 0 → mTst (M'.1 5) pl p.2 W → p.2 0 = g 0 → P M')
    (h2 : ∀ e, pTest f n a pl g = .inl e → ∀ M', mSame M M' → mBd M' e → P M') : JC x jtbM mX12_readTest (d + 5) [.ref (x.2.2.2 0), .int (nI W)] M (jV P) := by
  have six := hp.wf.2.2.2.1
  have w5 := hp.wf.1
  have h5 := hp.wf.2.1
  have a1 : nI W + 1 = nI (W + 1) := nI_1 W
  have a2 : nI W + 2 = nI (W + 2) := by rw [show (2 : Int32) = nI 2 from rfl, nI_add]
  unfold pTest at h1 h2
  have pre : ∀ (l2 : Int32) (G : jM → Prop), (∀ M2, uR (fun k => W < k ∧ k < W + 7) M M2 → mRt M2 f n (yX f n a) → M2.1 0 12 = 0 → M2.1 5 (W + 4) = l2 → G M2) → JC x jtbM mX12_must (d + 4) [.ref (x.2.2.2 0), .int (1 : Int32)] M (jV fun M1 => ∃ j1, j1 < 2060 ∧ nI W + 4 = nI j1 ∧ (∀ M2, M2 = jrI M1 5 (upd (M1.1 5) j1 l2) → G M2)) := fun l2 G hG =>
    m_must (b := true) h0 hr (fun _ M1 k1 r1 => ⟨W + 4, by omega, by rw [show (4 : Int32) = nI 4 from rfl, nI_add], fun M2 e2 => hG M2 (by rw [e2]; exact k1.u.tr (uR.put (by omega) ⟨by omega, by omega⟩)) (by rw [e2]; exact r1.put) (by rw [e2]; exact ok_put (k1.ok h0)) (by rw [e2, jrI_s, pk_us])⟩) (fun u => (by cases u))
  refine b_X12_readTest (d := d + 4) (m_isCellWord hr ⟨fun n11 => m_isSees hr ⟨fun n5 => m_isSame hr ⟨fun n13 => m_isStone hr ⟨fun n14 => ⟨fun _ => ?_, fun u => absurd (by decide) u⟩, fun y14 => ⟨fun u => absurd u (by decide), fun _ => ?_⟩⟩, fun y13 => ⟨fun u => absurd u (by decide), fun _ => ?_⟩⟩, fun y5 => ⟨fun u => absurd u (by decide), fun _ => ?_⟩⟩, fun y11 => ⟨fun u => absurd u (by decide), fun _ => ?_⟩⟩)
  · rw [if_neg (of_decide_eq_false n11), if_neg (of_decide_eq_false n5), if_neg (of_decide_eq_false n13), if_neg (of_decide_eq_false n14)] at h2
    refine b_X12_readTest_56 (d := d + 4) (m_must (b := false) h0 hr (fun u => (by cases u)) (fun _ M1 b1 => ⟨W + 4, by omega, by rw [show (4 : Int32) = nI 4 from rfl, nI_add], fun M2 e2 => ⟨fun _ => ⟨fun _ => ⟨fun _ => ⟨fun _ => h2 _ rfl M2 (by rw [e2]; exact b1.1.tr (mYq.put (by omega)).1) (by rw [e2]; exact b1.2.put), fun u => absurd u (by decide)⟩, fun u => absurd u (by decide)⟩, fun u => absurd u (by decide)⟩, fun u => absurd u (by decide)⟩⟩))
  · rw [if_neg (of_decide_eq_false n11), if_neg (of_decide_eq_false n5), if_neg (of_decide_eq_false n13), if_pos (of_decide_eq_true y14)] at h1 h2
    refine b_X12_readTest_56 (d := d + 4) (pre _ _ (fun M2 u2 r2 ok2 v2 => ⟨fun _ => ⟨fun _ => ⟨fun _ => ⟨fun u => absurd rfl u, fun _ => ?_⟩, fun u => absurd u (by decide)⟩, fun u => absurd u (by decide)⟩, fun u => absurd u (by decide)⟩))
    refine m_readSign (hi := 9999) (g := aSet g 1 14) (by omega) hW hW2 ok2 r2 (fun p hp' M3 u3 r3 ok3 s5 s6 gk => ?_) (fun e he M3 s3 b3 => h2 e he M3 (u2.1.tr s3) b3)
    have t : p.2 1 = 14 := by rw [gk 1 (by omega) (by omega), aSet_s]
    refine h1 p hp' M3 (u2.tr (u3.mono (fun k hk => by omega))) r3 ok3 ⟨?_, fun u => absurd (t.symm.trans u) (by decide), fun u => absurd (t.symm.trans u) (by decide), fun u => absurd (t.symm.trans u) (by decide), fun _ => ⟨s5, s6⟩⟩ (by rw [gk 0 (by omega) (by omega), aSet_n (by omega)])
    rw [u3.2.1 (W + 4) (by omega), v2, t]; rfl
  · rw [if_neg (of_decide_eq_false n11), if_neg (of_decide_eq_false n5), if_pos (of_decide_eq_true y13)] at h1 h2
    refine b_X12_readTest_56 (d := d + 4) (pre _ _ (fun M2 u2 r2 ok2 v2 => ⟨fun _ => ⟨fun _ => ⟨fun u => absurd rfl u, fun _ => ?_⟩, fun u => absurd u (by decide)⟩, fun u => absurd u (by decide)⟩))
    refine m_readName (g := aSet g 1 13) (hp.sm u2.1) (nm_sm hn six u2.1) ok2 r2 (fun p hp' M3 k3 r3 ok3 gk => ⟨W + 1, by omega, a1, fun M4 e4 => ?_⟩) (fun e he M3 v s3 b3 => ⟨W + 1, by omega, a1, fun M4 e4 => h2 e he M4 (by rw [e4]; exact (u2.1.tr s3).tr (mYq.put (by omega)).1) (by rw [e4]; exact b3.put)⟩)
    have t : p.2 1 = 13 := by rw [gk 1 (by omega), aSet_s]
    refine h1 p hp' M4 (by rw [e4]; exact (u2.tr k3.u).tr (uR.put (by omega) ⟨by omega, by omega⟩)) (by rw [e4]; exact r3.put) (by rw [e4]; exact ok_put ok3) ⟨?_, fun u => absurd (t.symm.trans u) (by decide), fun u => absurd (t.symm.trans u) (by decide), fun _ => by rw [e4, jrI_s, pk_us], fun u => absurd (t.symm.trans u) (by decide)⟩ (by rw [gk 0 (by omega), aSet_n (by omega)])
    rw [e4, jrI_s, pk_un (by omega), k3.r5, v2, t]; rfl
  · rw [if_neg (of_decide_eq_false n11), if_pos (of_decide_eq_true y5)] at h1 h2
    refine b_X12_readTest_56 (d := d + 4) (pre _ _ (fun M2 u2 r2 ok2 v2 => ⟨fun _ => ⟨fun u => absurd rfl u, fun _ => ?_⟩, fun u => absurd u (by decide)⟩))
    -- behind a fault
    have bad : ∀ M7 e, mSame M M7 → mBd M7 e → (∀ M', mSame M M' → mBd M' e → P M') → JC x jtbM mX12_count (d + 4) [.ref (x.2.2.2 0), .int (0 : Int32), .int (8 : Int32)] M7 (jI fun M10 r3 => ∃ j4, j4 < 2060 ∧ nI W + 2 = nI j4 ∧ (∀ M11, M11 = jrI M10 5 (upd (M10.1 5) j4 r3) → JC x jtbM mX12_readSign (d + 4) [.ref (x.2.2.2 0), .int (nI W), .int (99 : Int32)] M11 (jV fun M12 => P M12))) := fun M7 e s7 b7 hB =>
      m_countB b7 ⟨W + 2, by omega, a2, fun M11 e11 => m_readSignB hW hW2 (by rw [e11]; exact b7.put) (fun M' s' b' => hB M' (((by rw [e11]; exact s7.tr (mYq.put (by omega)).1 : mSame M M11)).tr s') b')⟩
    refine m_readName (g := aSet g 1 5) (hp.sm u2.1) (nm_sm hn six u2.1) ok2 r2 (fun p hp' M3 k3 r3 ok3 gk => ⟨W + 1, by omega, a1, fun M4 e4 => ?_⟩) (fun e he M3 v s3 b3 => ⟨W + 1, by omega, a1, fun M4 e4 => ?_⟩)
    · have r4 : mRt M4 f n p.1 := by rw [e4]; exact r3.put
      have ok4 : M4.1 0 12 = 0 := by rw [e4]; exact ok_put ok3
      have u4 : uR (fun k => W < k ∧ k < W + 7) M M4 := by rw [e4]; exact (u2.tr k3.u).tr (uR.put (by omega) ⟨by omega, by omega⟩)
      rw [hp'] at h1 h2
      refine m_isAt r4 (m_must ok4 r4 (fun yt M5 k5 r5 => ?_) (fun nt M5 b5 => ?_))
      · have et : yI f n p.1 = 12 := of_decide_eq_true yt
        refine m_count (lo := 0) (hi := 8) (by omega) (by omega) (k5.ok ok4) r5 (fun a6 v e6 M6 k6 r6 => ⟨W + 2, by omega, a2, fun M7 e7 => ?_⟩) (fun e e6 M6 b6 => ⟨W + 2, by omega, a2, fun M7 e7 => ?_⟩)
        · have ea : pAt f n p.1 p.2 = .inr (a6, aSet p.2 3 (nI v)) := by unfold pAt; rw [if_pos et, e6]; rfl
          have r7 : mRt M7 f n a6 := by rw [e7]; exact r6.put
          have ok7 : M7.1 0 12 = 0 := by rw [e7]; exact ok_put (k6.ok (k5.ok ok4))
          have u7 : uR (fun k => W < k ∧ k < W + 7) M M7 := by rw [e7]; exact ((u4.tr k5.u).tr k6.u).tr (uR.put (by omega) ⟨by omega, by omega⟩)
          have hk : ∀ R, eB (pCmp f n a6 (aSet p.2 3 (nI v))) (fun a2 g2 => pNum f n a2 0 99 g2) = R → eB (.inr p) (fun a1 g1 => eB (pAt f n a1 g1) (fun a2 g2 => eB (pCmp f n a2 g2) (fun a3 g3 => pNum f n a3 0 99 g3))) = R := fun R hR => by
            rw [eB_r, ea]; exact hR
          refine m_readSign (hi := 99) (g := aSet p.2 3 (nI v)) (by omega) hW hW2 ok7 r7 (fun q hq M8 u8 r8 ok8 s5 s6 gk8 => ?_) (fun e he M8 s8 b8 => h2 e (hk _ he) M8 (u7.1.tr s8) b8)
          have t : q.2 1 = 5 := by rw [gk8 1 (by omega) (by omega), aSet_n (by omega), gk 1 (by omega), aSet_s]
          refine h1 q (hk _ hq) M8 (u7.tr (u8.mono (fun k hk => by omega))) r8 ok8 ⟨?_, fun u => absurd (t.symm.trans u) (by decide), fun _ => ⟨?_, ?_, s5, s6⟩, fun u => absurd (t.symm.trans u) (by decide), fun u => absurd (t.symm.trans u) (by decide)⟩ (by rw [gk8 0 (by omega) (by omega), aSet_n (by omega), gk 0 (by omega), aSet_n (by omega)])
          · rw [u8.2.1 (W + 4) (by omega), e7, jrI_s, pk_un (by omega), k6.r5, k5.r5, e4, jrI_s, pk_un (by omega), k3.r5, v2, t]; rfl
          · rw [u8.2.1 (W + 1) (by omega), e7, jrI_s, pk_un (by omega), k6.r5, k5.r5, e4, jrI_s, pk_us, gk8 2 (by omega) (by omega), aSet_n (by omega)]
          · rw [u8.2.1 (W + 2) (by omega), e7, jrI_s, pk_us, gk8 3 (by omega) (by omega), aSet_s]
        · have ea : pAt f n p.1 p.2 = .inl e := by unfold pAt; rw [if_pos et, e6]; rfl
          refine m_readSignB hW hW2 (e := e) (by rw [e7]; exact b6.2.put) (fun M' s' b' => h2 e (by rw [eB_r, ea]; rfl) M' ?_ b')
          exact ((by rw [e7]; exact ((u4.1.tr k5.same).tr b6.1).tr (mYq.put (by omega)).1 : mSame M M7)).tr s'
      · have ea : pAt f n p.1 p.2 = .inl (yF f n p.1 2) := by unfold pAt; rw [if_neg (of_decide_eq_false nt)]
        exact bad M5 _ (u4.1.tr b5.1) b5.2 (h2 _ (by rw [eB_r, ea]; rfl))
    · have b4 : mBd M4 e := by rw [e4]; exact b3.put
      have s4 : mSame M M4 := by rw [e4]; exact (u2.1.tr s3).tr (mYq.put (by omega)).1
      exact m_isAtA (fun _ => m_mustB b4 (bad M4 e s4 b4 (h2 e (by rw [he]; rfl))))
  · rw [if_pos (of_decide_eq_true y11)] at h1 h2
    refine b_X12_readTest_56 (d := d + 4) (pre _ _ (fun M2 u2 r2 ok2 v2 => ⟨fun u => absurd rfl u, fun _ => ?_⟩))
    rw [(hp.sm u2.1).w]
    refine m_countC w5 ok2 r2 (fun b3 X e3 M3 k3 r3 => ⟨W + 1, by omega, a1, fun M4 e4 => ?_⟩) (fun e e3 M3 b3 => ⟨W + 1, by omega, a1, fun M4 e4 => ?_⟩)
    · have r4 : mRt M4 f n b3 := by rw [e4]; exact r3.put
      have ok4 : M4.1 0 12 = 0 := by rw [e4]; exact ok_put (k3.ok ok2)
      have u4 : uR (fun k => W < k ∧ k < W + 7) M M4 := by rw [e4]; exact (u2.tr k3.u).tr (uR.put (by omega) ⟨by omega, by omega⟩)
      rw [(hp.sm u4.1).h]
      refine m_countC h5 ok4 r4 (fun b5 Y e5 M5 k5 r5 => ⟨W + 2, by omega, a2, fun M6 e6 => ?_⟩) (fun e e5 M5 b5 => ⟨W + 2, by omega, a2, fun M6 e6 => ?_⟩)
      · have ec : pCell f n (yX f n a) pl (aSet g 1 11) = .inr (b5, aSet (aSet g 1 11) 2 (nI (Y * qw pl + X))) := by
          unfold pCell; rw [e3, eB_r]; dsimp only; rw [e5]; rfl
        have r6 : mRt M6 f n b5 := by rw [e6]; exact r5.put
        have ok6 : M6.1 0 12 = 0 := by rw [e6]; exact ok_put (k5.ok ok4)
        have u6 : uR (fun k => W < k ∧ k < W + 7) M M6 := by rw [e6]; exact (u4.tr k5.u).tr (uR.put (by omega) ⟨by omega, by omega⟩)
        rw [ec] at h1 h2
        refine m_readSign (hi := 99) (g := aSet (aSet g 1 11) 2 (nI (Y * qw pl + X))) (by omega) hW hW2 ok6 r6 (fun q hq M8 u8 r8 ok8 s5 s6 gk8 => ?_) (fun e he M8 s8 b8 => h2 e he M8 (u6.1.tr s8) b8)
        have t : q.2 1 = 11 := by rw [gk8 1 (by omega) (by omega), aSet_n (by omega), aSet_s]
        have xl := (tkC_ok r2.2.2 e3).2.2
        have yl := (tkC_ok r4.2.2 e5).2.2
        refine h1 q hq M8 (u6.tr (u8.mono (fun k hk => by omega))) r8 ok8 ⟨?_, fun _ => ⟨⟨X, Y, xl, yl, ?_, ?_, ?_⟩, s5, s6⟩, fun u => absurd (t.symm.trans u) (by decide), fun u => absurd (t.symm.trans u) (by decide), fun u => absurd (t.symm.trans u) (by decide)⟩ (by rw [gk8 0 (by omega) (by omega), aSet_n (by omega), aSet_n (by omega)])
        · rw [u8.2.1 (W + 4) (by omega), e6, jrI_s, pk_un (by omega), k5.r5, e4, jrI_s, pk_un (by omega), k3.r5, v2, t]; rfl
        · rw [gk8 2 (by omega) (by omega), aSet_s]
        · rw [u8.2.1 (W + 1) (by omega), e6, jrI_s, pk_un (by omega), k5.r5, e4, jrI_s, pk_us]
        · rw [u8.2.1 (W + 2) (by omega), e6, jrI_s, pk_us]
      · have ec : pCell f n (yX f n a) pl (aSet g 1 11) = .inl e := by
          unfold pCell; rw [e3, eB_r]; dsimp only; rw [e5]; rfl
        refine m_readSignB hW hW2 (e := e) (by rw [e6]; exact b5.2.put) (fun M' s' b' => h2 e (by rw [ec]; rfl) M' ?_ b')
        exact ((by rw [e6]; exact (u4.1.tr b5.1).tr (mYq.put (by omega)).1 : mSame M M6)).tr s'
    · have ec : pCell f n (yX f n a) pl (aSet g 1 11) = .inl e := by unfold pCell; rw [e3]; rfl
      have b4 : mBd M4 e := by rw [e4]; exact b3.2.put
      have s4 : mSame M M4 := by rw [e4]; exact (u2.1.tr b3.1).tr (mYq.put (by omega)).1
      refine m_countB b4 ⟨W + 2, by omega, a2, fun M6 e6 => m_readSignB hW hW2 (e := e) (by rw [e6]; exact b4.put) (fun M' s' b' => h2 e (by rw [ec]; rfl) M' ?_ b')⟩
      exact ((by rw [e6]; exact s4.tr (mYq.put (by omega)).1 : mSame M M6)).tr s'
end MTE
