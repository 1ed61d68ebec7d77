/-! an act of the orders, as the model reads it -/
/-- what stays while places S of row 5 are written -/
def uR (S : Nat → Prop) (M M' : jM) : Prop := mSame M M' ∧ (∀ k, ¬ S k → M'.1 5 k = M.1 5 k) ∧ M'.2 6 = M.2 6 ∧ M'.1 0 53 = M.1 0 53
section MAC
variable {x : jX} {d : Nat} {M M' M'' : jM} {f : Nat → Int32} {n a W : Nat} {pl : qP} {g : Nat → Int32} {e : Int32 × Int32} {S : Nat → Prop}
theorem uR.rf : uR S M M := ⟨mSame.rf, fun _ _ => rfl, rfl, rfl⟩
theorem uR.tr (h : uR S M M') (h2 : uR S M' M'') : uR S M M'' := ⟨h.1.tr h2.1, fun k hk => (h2.2.1 k hk).trans (h.2.1 k hk), h2.2.2.1.trans h.2.2.1, h2.2.2.2.trans h.2.2.2⟩
theorem uR.mono {T : Nat → Prop} (h : uR S M M') (hs : ∀ k, S k → T k) : uR T M M' := ⟨h.1, fun k hk => h.2.1 k (fun u => hk (hs k u)), h.2.2⟩
theorem mKp.u (h : mKp M M') : uR S M M' := ⟨h.same, fun k _ => by rw [h.r5], (h.1 6 (by omega)).2, h.2.1 53 (by omega)⟩
theorem uR.put {j : Nat} {v : Int32} (hj : 1648 ≤ j) (hs : S j) : uR S M (jrI M 5 (upd (M.1 5) j v)) := ⟨(mYq.put hj).1, fun k hk => by rw [jrI_s, pk_un (fun u => hk (by rw [u]; exact hs))], rfl, by rw [jrI_n (by omega)]⟩
theorem mBd.put {j : Nat} {v : Int32} (b : mBd M e) : mBd (jrI M 5 (upd (M.1 5) j v)) e := ⟨b.1, by rw [jrI_n (by omega)]; exact b.2.1, by rw [jrI_n (by omega)]; exact b.2.2⟩
theorem ok_put {j : Nat} {v : Int32} (b : M.1 0 12 = 0) : (jrI M 5 (upd (M.1 5) j v)).1 0 12 = 0 := by rw [jrI_n (by omega)]; exact b
theorem m_countC {P : jM → Int32 → Prop} {w : Nat} (hw : w ≤ 5) (h0 : M.1 0 12 = 0) (hr : mRt M f n a) (h1 : ∀ a' v, tkC f n a w = .inr (a', v) → ∀ M', mKp M M' → mRt M' f n a' → P M' (nI v)) (h2 : ∀ e, tkC f n a w = .inl e → ∀ M', mFl M M' e → P M' 0) : JC x jtbM mX12_count (d + 2) [.ref (x.2.2.2 0), .int (0 : Int32), .int (nI w - 1)] M (jI P) := by
  unfold tkC at h1 h2
  have z0 : (0 : Int32).toInt = 0 := by decide
  refine b_X12_count (d := d + 1) ⟨fun c => absurd h0 c, fun _ => ?_⟩
  rw [show (2 : Int32) = nI 2 from rfl, hr.2.1.kind (by omega), mkK_is (by omega) (by omega)]
  refine ⟨fun c => ?_, fun c => ?_⟩
  · have vl := yN_lt (f := f) (n := n) (a := a) c
    rw [if_pos c] at h1 h2
    refine b_X12_count_19 ⟨fun c => absurd h0 c, fun _ => ?_⟩
    rw [hr.2.1.2.2.2.1 c]
    refine k_mIsIn ?_
    rw [nI_m1L (by omega), Int32.toInt_toInt64, Int32.toInt_toInt64, nI_toInt (by omega), z0]
    by_cases q : yN f n a < w
    · rw [decide_eq_true (by omega)]
      rw [if_pos q] at h1
      refine ⟨fun _ => b_X12_count_50 ⟨fun _ => ?_, fun u => absurd (by rw [h0]; decide) u⟩, fun u => (by cases u)⟩
      rw [hr.2.1.2.2.2.1 c]
      exact m_go hr (h1 _ _ rfl)
    · rw [decide_eq_false (by omega)]
      rw [if_neg q] at h2
      exact ⟨fun u => (by cases u), fun _ => m_failAt h0 hr.2.1 (by decide) (by omega) (fun M' g => b_X12_count_50 ⟨fun u => absurd u g.2.le, fun _ => h2 _ rfl M' g⟩)⟩
  · rw [if_neg c] at h2
    refine m_wrong h0 hr.2.1 (fun M' g => ?_)
    exact b_X12_count_19 ⟨fun _ => b_X12_count_50 ⟨fun u => absurd u g.2.le, fun _ => h2 _ rfl M' g⟩, fun u => absurd u g.2.ne⟩
theorem m_readSignB {P : jM → Prop} {hi : Int32} (hW : 1648 ≤ W) (hW2 : W + 8 ≤ 2060) (hb : mBd M e) (h : ∀ M', mSame M M' → mBd M' e → P M') : JC x jtbM mX12_readSign (d + 2) [.ref (x.2.2.2 0), .int (nI W), .int hi] M (jV P) := by
  have s50 : ∀ l3 k0 : Int32, JW x jtbM mX12_readSign (d + 2) (jV P) 50 [(0, .ref (x.2.2.2 0)), (1, .int (nI W)), (2, .int hi), (3, .int l3)] [.int k0, .ref (x.2.2.2 0)] M := fun l3 k0 => by
    refine b_X12_readSign_50 (d := d + 1) (m_mustB hb ⟨W + 5, by omega, by rw [show (5 : Int32) = nI 5 from rfl, nI_add], fun M2 e2 => ?_⟩)
    have b2 : mBd M2 e := by rw [e2]; exact hb.put
    refine m_countB b2 ⟨W + 6, by omega, by rw [show (6 : Int32) = nI 6 from rfl, nI_add], fun M4 e4 => h M4 ?_ (by rw [e4]; exact b2.put)⟩
    rw [e4, e2]; exact (mYq.put (by omega)).1.tr (mYq.put (by omega)).1
  have s16 : ∀ k0 : Int32, JW x jtbM mX12_readSign (d + 2) (jV P) 16 [(0, .ref (x.2.2.2 0)), (1, .int (nI W)), (2, .int hi)] [.int k0] M := fun k0 =>
    b_X12_readSign_16 (d := d + 1) (m_isSignA (fun _ => ⟨fun _ => s50 _ _, fun _ => m_isSignA (fun _ => ⟨fun _ => s50 _ _, fun _ => m_isSignA (fun _ => ⟨fun _ => s50 _ _, fun _ => s50 _ _⟩)⟩)⟩))
  exact b_X12_readSign (d := d + 1) ⟨fun _ => s16 _, fun _ => s16 _⟩
theorem m_readSign {P : jM → Prop} {hi : Nat} (hhi : hi < 2 ^ 30) (hW : 1648 ≤ W) (hW2 : W + 8 ≤ 2060) (h0 : M.1 0 12 = 0) (hr : mRt M f n a)
    (h1 : ∀ p, eB (pCmp f n a g) (fun a1 g1 => pNum f n a1 0 hi g1) = .inr p → ∀ M', uR (fun k => k = W + 5 ∨ k = W + 6) M M' → mRt M' f n p.1 → M'.1 0 12 = 0 → M'.1 5 (W + 5) = p.2 4 → M'.1 5 (W + 6) = p.2 5 → (∀ k, k ≠ 4 → k ≠ 5 → p.2 k = g k) → P M')
    (h2 : ∀ e, eB (pCmp f n a g) (fun a1 g1 => pNum f n a1 0 hi g1) = .inl e → ∀ M', mSame M M' → mBd M' e → P M') : JC x jtbM mX12_readSign (d + 3) [.ref (x.2.2.2 0), .int (nI W), .int (nI hi)] M (jV P) := by
  -- the sign is there
  have yes : (yK f n a = 4 ∧ ¬ yG f n a = 59) → JW x jtbM mX12_readSign (d + 3) (jV P) 50 [(0, .ref (x.2.2.2 0)), (1, .int (nI W)), (2, .int (nI hi)), (3, .int (yG f n a))] [.int (1 : Int32), .ref (x.2.2.2 0)] M := fun y => by
    have ec : pCmp f n a g = .inr (yX f n a, aSet g 4 (yG f n a)) := by unfold pCmp; rw [if_pos y]
    refine b_X12_readSign_50 (d := d + 2) (m_must (b := true) h0 hr (fun _ M1 k1 r1 => ⟨W + 5, by omega, by rw [show (5 : Int32) = nI 5 from rfl, nI_add], fun M2 e2 => ?_⟩) (fun u => (by cases u)))
    have r2 : mRt M2 f n (yX f n a) := by rw [e2]; exact r1.put
    have ok2 : M2.1 0 12 = 0 := by rw [e2]; exact ok_put (k1.ok h0)
    have u2 : uR (fun k => k = W + 5 ∨ k = W + 6) M M2 := by rw [e2]; exact k1.u.tr (uR.put (by omega) (Or.inl rfl))
    refine m_count (lo := 0) (by omega) hhi ok2 r2 (fun a3 v e3 M3 k3 r3 => ⟨W + 6, by omega, by rw [show (6 : Int32) = nI 6 from rfl, nI_add], fun M4 e4 => ?_⟩) (fun e e3 M3 g3 => ⟨W + 6, by omega, by rw [show (6 : Int32) = nI 6 from rfl, nI_add], fun M4 e4 => ?_⟩)
    · refine h1 (a3, aSet (aSet g 4 (yG f n a)) 5 (nI v)) (by rw [ec]; show pNum f n _ 0 hi _ = _; unfold pNum; rw [e3]; rfl) M4 ?_ (by rw [e4]; exact r3.put) (by rw [e4]; exact ok_put (k3.ok ok2)) ?_ ?_ (fun k k4 k5 => by show aSet (aSet g 4 _) 5 _ k = _; rw [aSet_n k5, aSet_n k4])
      · rw [e4]; exact (u2.tr k3.u).tr (uR.put (by omega) (Or.inr rfl))
      · rw [e4, jrI_s, pk_un (by omega), k3.r5, e2, jrI_s, pk_us]
        show _ = aSet (aSet g 4 (yG f n a)) 5 (nI v) 4
        rw [aSet_n (by omega), aSet_s]
      · rw [e4, jrI_s, pk_us]
        show _ = aSet (aSet g 4 (yG f n a)) 5 (nI v) 5
        rw [aSet_s]
    · refine h2 e (by rw [ec]; show pNum f n _ 0 hi _ = _; unfold pNum; rw [e3]; rfl) M4 ?_ (by rw [e4]; exact g3.2.put)
      rw [e4]; exact (u2.1.tr g3.1).tr (mYq.put (by omega)).1
  have no : ∀ l3 : Int32, ¬ (yK f n a = 4 ∧ ¬ yG f n a = 59) → JW x jtbM mX12_readSign (d + 3) (jV P) 50 [(0, .ref (x.2.2.2 0)), (1, .int (nI W)), (2, .int (nI hi)), (3, .int l3)] [.int (0 : Int32), .ref (x.2.2.2 0)] M := fun l3 y => by
    have ec : pCmp f n a g = .inl (yF f n a 2) := by unfold pCmp; rw [if_neg y]
    refine b_X12_readSign_50 (d := d + 2) (m_must (b := false) h0 hr (fun u => (by cases u)) (fun _ M1 b1 => ⟨W + 5, by omega, by rw [show (5 : Int32) = nI 5 from rfl, nI_add], fun M2 e2 => ?_⟩))
    have b2 : mBd M2 (yF f n a 2) := by rw [e2]; exact b1.2.put
    refine m_countB b2 ⟨W + 6, by omega, by rw [show (6 : Int32) = nI 6 from rfl, nI_add], fun M4 e4 => h2 _ (by rw [ec]; rfl) M4 ?_ (by rw [e4]; exact b2.put)⟩
    rw [e4, e2]; exact (b1.1.tr (mYq.put (by omega)).1).tr (mYq.put (by omega)).1
  have s16 : ∀ k0 : Int32, (yK f n a = 4 → k0 = yG f n a) → JW x jtbM mX12_readSign (d + 3) (jV P) 16 [(0, .ref (x.2.2.2 0)), (1, .int (nI W)), (2, .int (nI hi))] [.int k0] M := fun k0 hk => by
    have go : ∀ k : Int32, ¬ k = 59 → decide (yK f n a = 4 ∧ yG f n a = k) = true → JW x jtbM mX12_readSign (d + 3) (jV P) 50 [(0, .ref (x.2.2.2 0)), (1, .int (nI W)), (2, .int (nI hi)), (3, .int k0)] [.int (1 : Int32), .ref (x.2.2.2 0)] M := fun k n59 t => by
      have t' := of_decide_eq_true t
      rw [hk t'.1]
      exact yes ⟨t'.1, by rw [t'.2]; exact n59⟩
    refine b_X12_readSign_16 (d := d + 2) (m_isSign hr.2.1 ⟨fun t => go 60 (by decide) t, fun n60 => m_isSign hr.2.1 ⟨fun t => go 62 (by decide) t, fun n62 => m_isSign hr.2.1 ⟨fun n61 => no _ (fun u => ?_), fun t => go 61 (by decide) t⟩⟩⟩)
    have a1 := of_decide_eq_false n60
    have a2 := of_decide_eq_false n61
    have a3 := of_decide_eq_false n62
    rcases yK4_sign u.1 with q | q | q | q
    · exact u.2 q
    · exact a1 ⟨u.1, q⟩
    · exact a2 ⟨u.1, q⟩
    · exact a3 ⟨u.1, q⟩
  refine b_X12_readSign (d := d + 2) ?_
  rw [show (3 : Int32) = nI 3 from rfl, hr.2.1.kind (by omega), mkK_is (by omega) (by omega)]
  refine ⟨fun c => s16 _ (fun u => absurd u c), fun c => ?_⟩
  rw [hr.2.1.2.2.2.2.1 c]
  exact s16 _ (fun _ => rfl)
theorem m_readNameB {P : jM → Int32 → Prop} (hb : mBd M e) (h : P M 0) : JC x jtbM mX12_readName (d + 2) [.ref (x.2.2.2 0)] M (jI P) :=
  b_X12_readName (d := d + 1) ⟨fun _ => b_X12_readName_18 (d := d + 1) ⟨fun _ => b_X12_readName_40 (d := d + 1) ⟨fun _ => m_mustB hb h, fun u => absurd u hb.ne⟩, fun u => absurd u hb.ne⟩, fun u => absurd u hb.ne⟩
theorem m_readName {P : jM → Int32 → Prop} (hp : mPl (M.1 5) pl) (hn : ∀ v, v < qn pl → M.2 6 v = qName pl v) (h0 : M.1 0 12 = 0) (hr : mRt M f n a)
    (h1 : ∀ p, pName f n a pl g = .inr p → ∀ M', mKp M M' → mRt M' f n p.1 → M'.1 0 12 = 0 → (∀ k, k ≠ 2 → p.2 k = g k) → P M' (p.2 2))
    (h2 : ∀ e, pName f n a pl g = .inl e → ∀ M' v, mSame M M' → mBd M' e → P M' v) : JC x jtbM mX12_readName (d + 4) [.ref (x.2.2.2 0)] M (jI P) := by
  have six := hp.wf.2.2.2.1
  unfold pName at h1 h2
  have bad : ∀ M1 e (_ : Nat), mBd M1 e → (∀ v, P M1 v) → JW x jtbM mX12_readName (d + 4) (jI P) 18 [(0, .ref (x.2.2.2 0))] [] M1 := fun M1 e _ b p => b_X12_readName_18 (d := d + 3) ⟨fun _ => b_X12_readName_40 (d := d + 3) ⟨fun _ => m_mustB b (p _), fun u => absurd u b.ne⟩, fun u => absurd u b.ne⟩
  refine b_X12_readName (d := d + 3) ⟨fun u => absurd h0 u, fun _ => m_isName hr ⟨fun y => ?_, fun y => ?_⟩⟩
  · rw [if_pos y] at h1 h2
    obtain ⟨y2, y8, y26⟩ := of_decide_eq_true (show decide (yK f n a = 2 ∧ yLt f n a ≤ 8 ∧ yI f n a = 26) = true from y)
    have wd : M.2 0 22 = lN (yV f n a) := by rw [(hr.2.1.2.2.2.2.2 y2).1, if_pos y8]
    refine b_X12_readName_18 (d := d + 3) ⟨fun u => absurd h0 u, fun _ => ?_⟩
    rw [hp.n]
    refine m_named (b := 0) (g := qName pl) (by omega) six (fun v hv => by rw [Nat.mul_zero, Nat.zero_add]; exact hn v hv) wd (fun no => ?_) (fun v hv e mn => ?_)
    · have nlt : ¬ qNm pl (lN (yV f n a)) < qn pl := fun u => by
        obtain ⟨v, hv, e⟩ := qFst_lt.mp u
        exact no v hv (of_decide_eq_true e)
      rw [if_neg nlt] at h2
      refine b_X12_readName_40 (d := d + 3) ⟨fun u => absurd h0 u, fun _ => ⟨fun u => absurd u (by decide), fun _ => m_failAt h0 hr.2.1 (by decide) (by omega) (fun M1 b => m_mustB b.2 (h2 _ rfl M1 _ b.1 b.2))⟩⟩
    · have eq : qNm pl (lN (yV f n a)) = v := qFst_at (fun j hj => decide_eq_false (mn j hj)) (decide_eq_true e) hv
      rw [eq, if_pos hv] at h1
      refine b_X12_readName_40 (d := d + 3) ⟨fun u => absurd h0 u, fun _ => ⟨fun _ => m_must (b := true) h0 hr (fun _ M1 k1 r1 => ?_) (fun u => (by cases u)), fun u => absurd (Int32.not_lt.mp (nI_nneg (by omega))) u⟩⟩
      have := h1 _ rfl M1 k1 r1 (k1.ok h0) (fun k hk => aSet_n hk)
      rw [show (yX f n a, aSet g 2 (nI v)).2 2 = nI v from aSet_s (g := g) (k := 2)] at this
      exact this
  · rw [if_neg (by rw [y]; decide)] at h2
    exact m_wrong h0 hr.2.1 (fun M1 b => bad M1 _ 0 b.2 (fun v => h2 _ rfl M1 v b.1 b.2))
end MAC
