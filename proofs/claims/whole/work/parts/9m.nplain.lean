/-! plain, on the model's side -/
theorem rEnd.cong {α : Type} {M M' : jM} {f : Nat → Int32} {n : Nat} {r : qE (Nat × α)} {Q Q' : α → Prop} (h : rEnd M f n r Q) (hm : ∀ t, mRt M f n t → mRt M' f n t) (h12 : M'.1 0 12 = M.1 0 12) (h13 : M'.1 0 13 = M.1 0 13) (hq : ∀ p, r = .inr p → Q p.2 → Q' p.2) : rEnd M' f n r Q' := by
  cases r with
  | inl e =>
    rcases h with h | ⟨t, h1, h2, h3, h4⟩
    · exact Or.inl ⟨h.1, by rw [h12]; exact h.2.1, by rw [h13]; exact h.2.2⟩
    · exact Or.inr ⟨t, hm t h1, by rw [h12]; exact h2, h3, h4⟩
  | inr p =>
    obtain ⟨t, h1, h2, h3, h4, h5⟩ := h
    exact ⟨t, h1, h2, hm t h3, by rw [h12]; exact h4, hq p rfl h5⟩
theorem mRt.slot {M : jM} {f : Nat → Int32} {n a : Nat} {j : Nat} {v : Int32} (h : mRt M f n a) (h9 : j ≠ 9) (h14 : j < 14 ∨ 18 < j) : mRt (jrI M 0 (upd (M.1 0) j v)) f n a := by
  have e : ∀ k, k ≠ j → (jrI M 0 (upd (M.1 0) j v)).1 0 k = M.1 0 k := fun k hk => by rw [jrI_s, pk_un hk]
  obtain ⟨⟨t1, t2, t3, t4⟩, ⟨r1, r2, r3, r4, r5, r6⟩, le⟩ := h
  exact ⟨⟨t1, fun k hk => by rw [jrI_n (by omega)]; exact t2 k hk, t3, by rw [e _ (by omega)]; exact t4⟩, ⟨by rw [e _ (by omega)]; exact r1, by rw [e _ (by omega)]; exact r2, by rw [e _ (by omega)]; exact r3, fun u => by rw [e _ (by omega)]; exact r4 u, fun u => by rw [e _ (by omega)]; exact r5 u, fun u => ⟨(r6 u).1, by rw [e _ (by omega)]; exact (r6 u).2⟩⟩, le⟩
theorem mI.setFa {N N' : jM} {z : qZ} {e : Int32 × Int32} (h : mI N z) (h1 : ∀ q, q ≠ 0 → N'.1 q = N.1 q) (h2 : N'.2 = N.2) (h0 : ∀ k, k ≠ 10 → k ≠ 11 → N'.1 0 k = N.1 0 k) (e1 : N'.1 0 10 = e.1) (e2 : N'.1 0 11 = e.2) : mI N' (uFa z e) := by
  obtain ⟨a1, a2, a3, a4, a5, a6, a7, a8, a9, a10, a11, a12, a13, a14, a15⟩ := h
  obtain ⟨k1, k2, k3, k4, k5, k6, k7⟩ := id a15
  refine ⟨by rw [h0 0 (by omega) (by omega)]; exact a1, by rw [h2]; exact a2, by rw [h2]; exact a3, fun t ht => (a4 t ht).keep (by rw [h1 2 (by omega)]) (by rw [h1 1 (by omega)]) (fun _ _ => by rw [h2]), by rw [h0 8 (by omega) (by omega)]; exact a5, fun k hk => by rw [h1 4 (by omega)]; exact a6 k hk, e1, e2, a9.keep k3 (fun k hk => by rw [h1 5 (by omega)]) (fun _ _ => by rw [h2]), by rw [h0 25 (by omega) (by omega)]; exact a10, fun m hm => (a11 m hm).keep (k5 m hm) (fun k hk => by rw [h1 5 (by omega)]) (fun _ _ => by rw [h2]), by rw [h0 39 (by omega) (by omega)]; exact a12, fun k hk => by rw [h1 13 (by omega)]; exact a13 k hk, ?_, a15⟩
  rw [h0 49 (by omega) (by omega), h1 16 (by omega)]
  exact a14
section NPL
variable {x : jX} {d : Nat} {M : jM} {f : Nat → Int32} {n : Nat} {z : qZ}
theorem m_semi {P : jM → Prop} {α : Type} {r : qE (Nat × α)} {Q : α → Prop} (h : rEnd M f n r Q) (h1 : ∀ p, r = .inr p → Q p.2 → ∀ M', mKp M M' → mRt M' f n p.1 → M'.1 0 12 = 0 → P M') (h2 : ∀ e, r = .inl e → ∀ M', mSame M M' → mBd M' e → P M') : JC x jtbM mX12_isSign (d + 2) [.ref (x.2.2.2 0), .int (59 : Int32)] M (jZ fun M1 b => JC x jtbM mX12_must (d + 2) [.ref (x.2.2.2 0), .int (jb b)] M1 (jV P)) := by
  cases r with
  | inl e =>
    rcases h with hb | ⟨t, g1, g2, g3, g4⟩
    · exact m_isSignA (fun b => m_mustB hb (h2 e rfl M mSame.rf hb))
    · refine m_isSign g1.2.1 ?_
      rw [decide_eq_false g3]
      exact m_must (b := false) g2 g1 (fun u => (by cases u)) (fun _ M' b => h2 e rfl M' b.1 (by rw [g4]; exact b.2))
  | inr p =>
    obtain ⟨t, g1, g2, g3, g4, g5⟩ := h
    refine m_isSign g3.2.1 ?_
    rw [decide_eq_true g2]
    exact m_must (b := true) g4 g3 (fun _ M' k r => h1 p rfl g5 M' k (by rw [← g1]; exact r) (k.ok g4)) (fun u => (by cases u))
theorem m_isWellB {P : jM → Bool → Prop} {e : Int32 × Int32} (h : mI M z) (hb : mBd M e) (hP : ∀ M', mI M' (uSt (uFa z e) 10) → P M' false) : JC x jtbM mX12_isWell (d + 1) [.ref (x.2.2.2 0)] M (jZ P) := by
  refine b_X12_isWell ?_
  intro M1 e1
  have s12 : M1.1 0 12 = M.1 0 12 := by rw [e1, jrI_s, pk_un (by omega)]
  rw [s12]
  refine ⟨fun _ => b_X12_isWell_24 ?_, fun u => absurd u hb.ne⟩
  intro M2 e2
  have t12 : M2.1 0 12 = M.1 0 12 := by rw [e2, jrI_s, pk_un (by omega)]; exact s12
  rw [t12]
  refine ⟨fun u => absurd u hb.ne, fun _ => m_no (h.setFa (e := e) (N' := M2) (fun q hq => by rw [e2, jrI_n hq, e1, jrI_n hq]) (by rw [e2, e1]; rfl) (fun k k1 k2 => by rw [e2, jrI_s, pk_un k2, e1, jrI_s, pk_un k1]) ?_ ?_) (fun M3 h3 => ⟨fun _ => hP M3 h3, fun u => (by cases u)⟩)⟩
  · rw [e2, jrI_s, pk_un (by omega), e1, jrI_s, pk_us]; exact hb.2.1
  · rw [e2, jrI_s, pk_us, e1, jrI_s, pk_un (by omega)]; exact hb.2.2
theorem m_isWellG {P : jM → Bool → Prop} (h : mI M z) (h0 : M.1 0 12 = 0) (hP : ∀ M', mI M' (uFa z (0, -1)) → (∀ q, q ≠ 0 → M'.1 q = M.1 q) → M'.2 = M.2 → P M' true) : JC x jtbM mX12_isWell (d + 1) [.ref (x.2.2.2 0)] M (jZ P) := by
  refine b_X12_isWell ?_
  intro M1 e1
  have s12 : M1.1 0 12 = M.1 0 12 := by rw [e1, jrI_s, pk_un (by omega)]
  rw [s12]
  refine ⟨fun u => absurd h0 u, fun _ => b_X12_isWell_24 ?_⟩
  intro M2 e2
  have t12 : M2.1 0 12 = M.1 0 12 := by rw [e2, jrI_s, pk_un (by omega)]; exact s12
  rw [t12]
  refine ⟨fun _ => hP M2 (h.setFa (e := (0, -1)) (N' := M2) (fun q hq => by rw [e2, jrI_n hq, e1, jrI_n hq]) (by rw [e2, e1]; rfl) (fun k k1 k2 => by rw [e2, jrI_s, pk_un k2, e1, jrI_s, pk_un k1]) ?_ ?_) (fun q hq => by rw [e2, jrI_n hq, e1, jrI_n hq]) (by rw [e2, e1]; rfl), fun u => absurd h0 u⟩
  · rw [e2, jrI_s, pk_un (by omega), e1, jrI_s, pk_us]; exact h0
  · rw [e2, jrI_s, pk_us]
/-- the new plain becomes the plain -/
theorem m_settle {P : jM → Int32 → Prop} {pl : qP} (hp : mNw M pl) (h : ∀ M', (∀ q, q ≠ 5 → q ≠ 6 → M'.1 q = M.1 q ∧ M'.2 q = M.2 q) → (∀ k, 412 ≤ k → k < 1648 → M'.1 5 k = M.1 5 k) → (∀ k, 6 ≤ k → k < 24 → M'.2 6 k = M.2 6 k) → mWd M' 0 (qW0 pl) → P M' (nI (qc pl))) : JW x jtbM mX12_plain (d + 1) (jI P) 287 [(0, .ref (x.2.2.2 0)), (2, .int (0 : Int32))] [] M := by
  have wf := hp.1.wf
  have c25 := wf.c25
  have six := wf.2.2.2.1
  refine jloop (fun i (M' : jM) => JW x jtbM mX12_plain (d + 1) (jI P) 287 [(0, .ref (x.2.2.2 0)), (2, .int (nI i))] [] M') (fun i M' => (∀ q, q ≠ 5 → M'.1 q = M.1 q) ∧ M'.2 = M.2 ∧ (∀ k, 412 ≤ k → M'.1 5 k = M.1 5 k) ∧ ∀ k, k < i → M'.1 5 k = M.1 5 (1648 + k)) 412 ?_ ?_ 0 M (Nat.zero_le _) ⟨fun _ _ => rfl, rfl, fun _ _ => rfl, fun k hk => absurd hk (Nat.not_lt_zero _)⟩
  · rintro M1 ⟨a1, a2, a3, a4⟩
    refine b_X12_plain_287 (pk_le 412 412 (fun _ => ?_) (fun u => absurd u (by omega)))
    refine jloop (fun i (M' : jM) => JW x jtbM mX12_plain (d + 1) (jI P) 318 [(0, .ref (x.2.2.2 0)), (2, .int (nI i))] [] M') (fun i M' => M'.1 = M1.1 ∧ (∀ q, q ≠ 6 → M'.2 q = M.2 q) ∧ (∀ k, 6 ≤ k → M'.2 6 k = M.2 6 k) ∧ ∀ k, k < i → M'.2 6 k = M.2 6 (24 + k)) 6 ?_ ?_ 0 M1 (Nat.zero_le _) ⟨rfl, fun q _ => by rw [a2], fun _ _ => by rw [a2], fun k hk => absurd hk (Nat.not_lt_zero _)⟩
    · rintro M2 ⟨b1, b2, b3, b4⟩
      refine b_X12_plain_318 (pk_le 6 6 (fun _ => ?_) (fun u => absurd u (by omega)))
      have q2 : mPl (M2.1 5) pl := by rw [b1]; exact hp.1.keep (fun k hk => a4 k (by omega))
      refine jloop (fun i (M' : jM) => JW x jtbM mX12_plain (d + 1) (jI P) 347 [(0, .ref (x.2.2.2 0)), (2, .int (nI i))] [] M') (fun i M' => M'.2 = M2.2 ∧ (∀ q, q ≠ 5 → M'.1 q = M2.1 q) ∧ (∀ k, (k < 144 ∨ 169 ≤ k) → M'.1 5 k = M2.1 5 k) ∧ ∀ k, k < i → M'.1 5 (144 + k) = nI (qLeast pl k)) (qc pl) ?_ ?_ 0 M2 (Nat.zero_le _) ⟨rfl, fun _ _ => rfl, fun _ _ => rfl, fun k hk => absurd hk (Nat.not_lt_zero _)⟩
      · rintro M3 ⟨c1, c2, c3, c4⟩
        have q3 : mPl (M3.1 5) pl := q2.keep (fun k hk => c3 k (by omega))
        refine b_X12_plain_347 (k_mCells q3 (pk_le (qc pl) (qc pl) (fun _ => k_mCells q3 (h M3 (fun q n5 n6 => ⟨by rw [c2 q n5, b1, a1 q n5], by rw [c1, b2 q n6]⟩) (fun k k1 k2 => by rw [c3 k (by omega), b1, a3 k k1]) (fun k k1 k2 => by rw [c1, b3 k k1]) ?_)) (fun u => absurd u (by omega))))
        have e0 : (fun k => M3.1 5 (412 * 0 + k)) = M3.1 5 := by funext k; rw [Nat.mul_zero, Nat.zero_add]
        unfold mWd
        rw [e0]
        refine ⟨q3, fun v hv => ?_, ⟨c4, wf.2.2.2.2.2.2.2.1⟩, ?_, Or.inl rfl, fun u => ?_⟩
        · have hv' : v < qn pl := hv
          rw [Nat.mul_zero, Nat.zero_add, c1, b4 v (by omega)]
          exact hp.2.1 v hv'
        · rw [c3 169 (by omega), b1, a4 169 (by omega)]; exact hp.2.2
        · exact absurd (show (0 : Int32) = 1 from u) (by decide)
      · rintro i M3 hi ⟨c1, c2, c3, c4⟩ ih
        have q3 : mPl (M3.1 5) pl := q2.keep (fun k hk => c3 k (by omega))
        refine b_X12_plain_347 (k_mCells q3 (pk_le (qc pl) i (fun u => absurd u (by omega)) (fun _ => ⟨28 + i, by omega, by rw [show (28 : Int32) = nI 28 from rfl, nI_add], 144 + i, by omega, by rw [show (144 : Int32) = nI 144 from rfl, nI_add], fun M4 e4 => ?_⟩)))
        rw [nI_1]
        refine ih M4 ⟨by rw [e4]; exact c1, fun q hq => by rw [e4, jrI_n hq]; exact c2 q hq, fun k hk => by rw [e4, jrI_s, pk_un (by omega)]; exact c3 k hk, fun k hk => ?_⟩
        rw [e4, jrI_s]
        by_cases e : k = i
        · rw [e, pk_us]; exact q3.least (by omega)
        · rw [pk_un (by omega)]; exact c4 k (by omega)
    · rintro i M2 hi ⟨b1, b2, b3, b4⟩ ih
      refine b_X12_plain_318 (pk_le 6 i (fun u => absurd u (by omega)) (fun _ => ⟨24 + i, by omega, by rw [show (24 : Int32) = nI 24 from rfl, nI_add], i, by omega, rfl, fun M4 e4 => ?_⟩))
      rw [nI_1]
      refine ih M4 ⟨by rw [e4]; exact b1, fun q hq => by rw [e4, jrL_n hq]; exact b2 q hq, fun k hk => by rw [e4, jrL_s, pk_uLn (by omega)]; exact b3 k hk, fun k hk => ?_⟩
      rw [e4, jrL_s]
      by_cases e : k = i
      · rw [e, pk_uLs]; exact b3 _ (by omega)
      · rw [pk_uLn e]; exact b4 k (by omega)
  · rintro i M1 hi ⟨a1, a2, a3, a4⟩ ih
    refine b_X12_plain_287 (pk_le 412 i (fun u => absurd u (by omega)) (fun _ => ⟨1648 + i, by omega, by rw [show (1648 : Int32) = nI 1648 from rfl, nI_add], i, by omega, rfl, fun M4 e4 => ?_⟩))
    rw [nI_1]
    refine ih M4 ⟨fun q hq => by rw [e4, jrI_n hq]; exact a1 q hq, by rw [e4]; exact a2, fun k hk => by rw [e4, jrI_s, pk_un (by omega)]; exact a3 k hk, fun k hk => ?_⟩
    rw [e4, jrI_s]
    by_cases e : k = i
    · rw [e, pk_us]; exact a3 _ (by omega)
    · rw [pk_un e]; exact a4 k (by omega)
end NPL
