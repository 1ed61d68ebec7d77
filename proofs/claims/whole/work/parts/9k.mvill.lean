/-! the model's new plain: cells and villages -/
def mNw (M : jM) (pl : qP) : Prop := mPl (fun k => M.1 5 (1648 + k)) pl ∧ (∀ v, v < qn pl → M.2 6 (24 + v) = qName pl v) ∧ M.1 5 1817 = 0
theorem mNw.keep {M M' : jM} {pl : qP} (h : mNw M pl) (h5 : M'.1 5 = M.1 5) (h6 : M'.2 6 = M.2 6) : mNw M' pl := by
  unfold mNw
  rw [h5, h6]
  exact h
theorem pRow_get {pl : qP} {r i k : Nat} {g : Nat → Nat} : (pRowSet pl r g).2.1 i k = if i = r then g k else pl.2.1 i k := by
  show (if i = r then g else pl.2.1 i) k = _
  split <;> rfl
theorem mNw.row {M M' : jM} {pl : qP} {r frm R : Nat} {g : Nat → Nat} (h : mNw M pl) (hr : r < 3) (hf : frm + R ≤ 25) (h1 : ∀ k, frm ≤ k → k < frm + R → M'.1 5 (1651 + 25 * r + k) = nI (g k)) (h2 : ∀ k, (k < 1651 + 25 * r + frm ∨ 1651 + 25 * r + frm + R ≤ k) → M'.1 5 k = M.1 5 k) (h3 : ∀ k, (k < frm ∨ frm + R ≤ k) → g k = pl.2.1 r k) (h6 : M'.2 6 = M.2 6) (w : qWf (pRowSet pl r g)) : mNw M' (pRowSet pl r g) := by
  obtain ⟨p, nm, z⟩ := h
  have key : ∀ i, i < 3 → (∀ k, k < 25 → M.1 5 (1651 + 25 * i + k) = nI (pl.2.1 i k)) → ∀ k, k < 25 → M'.1 5 (1651 + 25 * i + k) = nI ((pRowSet pl r g).2.1 i k) := fun i hi hm k hk => by
    rw [pRow_get]
    by_cases e : i = r
    · subst e
      rw [if_pos rfl]
      by_cases q : frm ≤ k ∧ k < frm + R
      · exact h1 k q.1 q.2
      · rw [h2 _ (by omega), h3 k (by omega)]; exact hm k hk
    · rw [if_neg e, h2 _ (by omega)]; exact hm k hk
  have o : ∀ k, (k < 1651 ∨ 1726 ≤ k) → M'.1 5 k = M.1 5 k := fun k hk => h2 k (by omega)
  have six := w.2.2.2.1
  refine ⟨⟨?_, ?_, ?_, fun k hk => ?_, fun k hk => ?_, fun k hk => ?_, fun v hv => ?_, fun v hv => ?_, fun v s hv hk hs => ?_, w⟩, fun v hv => ?_, ?_⟩
  · show M'.1 5 1648 = _
    rw [o _ (by omega)]; exact p.w
  · show M'.1 5 1649 = _
    rw [o _ (by omega)]; exact p.h
  · show M'.1 5 1650 = _
    rw [o _ (by omega)]; exact p.n
  · have := key 0 (by omega) (fun k hk => by have := p.most hk; rw [show 1651 + 25 * 0 + k = 1648 + (3 + k) by omega]; exact this) k hk
    rw [show 1651 + 25 * 0 + k = 1648 + (3 + k) by omega] at this; exact this
  · have := key 1 (by omega) (fun k hk => by have := p.least hk; rw [show 1651 + 25 * 1 + k = 1648 + (28 + k) by omega]; exact this) k hk
    rw [show 1651 + 25 * 1 + k = 1648 + (28 + k) by omega] at this; exact this
  · have := key 2 (by omega) (fun k hk => by have := p.price hk; rw [show 1651 + 25 * 2 + k = 1648 + (53 + k) by omega]; exact this) k hk
    rw [show 1651 + 25 * 2 + k = 1648 + (53 + k) by omega] at this; exact this
  · have e : qSide (pRowSet pl r g) v = qSide pl v := by
      unfold qSide; rw [pRow_get, if_neg (by omega)]
    show M'.1 5 (1648 + (78 + v)) = _
    rw [o _ (by omega), e]; exact p.side hv
  · show M'.1 5 (1648 + (84 + v)) = _
    rw [o _ (by omega)]; exact p.has hv
  · have e : qLine (pRowSet pl r g) v s = qLine pl v s := by
      unfold qLine; rw [pRow_get, if_neg (by omega)]
    have e2 : qSt (pRowSet pl r g) v = qSt pl v := by
      have e3 : qSide (pRowSet pl r g) v = qSide pl v := by
        unfold qSide; rw [pRow_get, if_neg (by omega)]
      unfold qSt; rw [e3]; rfl
    show M'.1 5 (1648 + (90 + (v * 9 + s))) = _
    rw [o _ (by omega), e]; exact p.line hv hk (by rw [← e2]; exact hs)
  · rw [h6]; exact nm v hv
  · rw [o _ (by omega)]; exact z
section MVL
variable {x : jX} {d : Nat} {M : jM} {f : Nat → Int32} {n a : Nat} {pl : qP}
theorem m_readCells {P : jM → Int32 → Prop} {r cnt lo : Nat} (hr3 : r < 3) (hlo : lo ≤ 1) (hc : cnt ≤ qh pl) (h0 : M.1 0 12 = 0) (hr : mRt M f n a) (hk : yK f n a = 2) (hp : mNw M pl) (w1 : 1 ≤ qw pl)
    (h : ∀ M' v, mSame M M' → rEnd M' f n (pCells f n a pl r cnt lo) (fun pl' => mNw M' pl' ∧ mYq M M' ∧ v = nI (cnt + 1)) → P M' v) : JC x jtbM mX12_readCells (d + 3) [.ref (x.2.2.2 0), .int (nI (1651 + 25 * r)), .int (nI cnt), .int (nI lo), .int (nI 99)] M (jI P) := by
  have wf := hp.1.wf
  have W := wf.1
  have H := wf.2.1
  have ew : M.1 5 1648 = nI (qw pl) := hp.1.w
  have eh : M.1 5 1649 = nI (qh pl) := hp.1.h
  unfold pCells at h
  refine b_X12_readCells (d := d + 2) ?_
  rw [eh, nI_eq (by omega) (by omega)]
  refine ⟨fun ne => b_X12_readCells_22 ⟨fun _ => ?_, fun u => absurd (by rw [h0]; decide) u⟩, fun e => m_failAt h0 hr.2.1 (by decide) (by omega) (fun M1 b => b_X12_readCells_22 ⟨fun u => absurd u b.2.le, fun _ => h M1 _ b.1 ?_⟩)⟩
  · rw [if_neg (show ¬ qh pl ≤ cnt by omega)] at h
    rw [ew, pk_mul, nI_add]
    have m1 : cnt * qw pl + qw pl ≤ 25 := by
      have : (cnt + 1) * qw pl ≤ 5 * 5 := Nat.mul_le_mul (by omega) W
      rw [Nat.add_mul, Nat.one_mul] at this
      exact this
    rw [Nat.mul_comm (qw pl) cnt]
    refine m_readRow (g := pl.2.1 r) (by omega) w1 (by omega) (by omega) h0 hr (fun M' s e => h M' _ s (rEnd_map (e.mono ?_)))
    rintro p hp' ⟨q1, q2, q3⟩
    obtain ⟨o1, o2, o3, o4⟩ := rRow_ok _ (yX_le hr.2.2) (show rRow f n lo (cnt * qw pl) (qw pl) (yX f n a) 0 (pl.2.1 r) = .inr (p.1, p.2) from hp')
    refine ⟨hp.row hr3 m1 q1 q2 (fun k hk => o3 k (by omega)) q3.2.1 (pRow_wf wf hr3 (fun k => ?_)), q3, ?_⟩
    · by_cases q : k < cnt * qw pl + 0 ∨ cnt * qw pl + 0 + qw pl ≤ k
      · rw [o3 k q]; exact row_le wf hr3 k
      · exact (o4 k (by omega) (by omega)).2
    · rw [show (1 : Int32) = nI 1 from rfl, nI_add]
  · rw [if_pos (by omega)]
    exact Or.inl b.2
end MVL
