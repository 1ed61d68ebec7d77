/-! the model's operations -/
theorem mI.setNw {N N' : jM} {z : qZ} {w : qW} (h : mI N z) (h1 : ∀ q, q ≠ 5 → q ≠ 6 → N'.1 q = N.1 q ∧ N'.2 q = N.2 q) (h5 : ∀ k, 412 ≤ k → k < 1648 → N'.1 5 k = N.1 5 k) (h6 : ∀ k, 6 ≤ k → k < 24 → N'.2 6 k = N.2 6 k) (hw : mWd N' 0 w) (ok : oOk w.1 w.2.2) : mI N' (uNw z w) := by
  obtain ⟨a1, a2, a3, a4, a5, a6, a7, a8, a9, a10, a11, a12, a13, a14, a15⟩ := h
  obtain ⟨k1, k2, k3, k4, k5, k6, k7⟩ := id a15
  refine ⟨by rw [(h1 0 (by omega) (by omega)).1]; exact a1, by rw [(h1 0 (by omega) (by omega)).2]; exact a2, by rw [(h1 0 (by omega) (by omega)).2]; exact a3, fun t ht => (a4 t ht).keep (by rw [(h1 2 (by omega) (by omega)).1]) (by rw [(h1 1 (by omega) (by omega)).1]) (fun _ _ => by rw [(h1 3 (by omega) (by omega)).2]), by rw [(h1 0 (by omega) (by omega)).1]; exact a5, fun k hk => by rw [(h1 4 (by omega) (by omega)).1]; exact a6 k hk, by rw [(h1 0 (by omega) (by omega)).1]; exact a7, by rw [(h1 0 (by omega) (by omega)).1]; exact a8, hw, by rw [(h1 0 (by omega) (by omega)).1]; exact a10, fun m hm => by
    have hm' : m < (zMk z).1 := hm
    exact (a11 m hm).keep (k5 m hm) (fun k hk => h5 _ (by omega) (by omega)) (fun k hk => h6 _ (by omega) (by omega)), by rw [(h1 0 (by omega) (by omega)).1]; exact a12, fun k hk => by rw [(h1 13 (by omega) (by omega)).1]; exact a13 k hk, ?_, ⟨k1, k2, ok, k4, k5, k6, k7⟩⟩
  rw [(h1 0 (by omega) (by omega)).1, (h1 16 (by omega) (by omega)).1]
  exact a14
/-- the town's slots of the model's row are set -/
theorem mI.setTn {N N' : jM} {z : qZ} {f : Nat → Nat} (h : mI N z) (h1 : ∀ q, q ≠ 5 → N'.1 q = N.1 q) (h2 : N'.2 = N.2) (h5 : ∀ k, (k < 144 ∨ 169 ≤ k) → N'.1 5 k = N.1 5 k) (hf : ∀ c, c < qc (zP z) → N'.1 5 (144 + c) = nI (f c)) (hb : ∀ c, f c ≤ 99) : mI N' (uTn z f) := by
  obtain ⟨a1, a2, a3, a4⟩ := h.nw
  have e : ∀ k, 412 * 0 + k = k := fun k => by omega
  refine h.setNw (fun q q1 q2 => ⟨h1 q q1, by rw [h2]⟩) (fun k k1 k2 => h5 k (by omega)) (fun k _ _ => by rw [h2]) ⟨a1.keep (fun k hk => by rw [e, h5 k (by omega)]), fun v hv => by rw [h2]; exact a2 v hv, ⟨fun k hk => by show N'.1 5 (412 * 0 + (144 + k)) = _; rw [e]; exact hf k hk, hb⟩, a4.keep h.ok.2.2.1 (fun k k1 k2 => by rw [e, h5 k (by omega)])⟩ h.ok.2.2.1
section MOP
variable {x : jX} {d : Nat} {M : jM} {z : qZ}
theorem k_mIsInC {P : jM → Bool → Prop} {a : Int32} {K : Int64} (n : Nat) (hK : K.toInt = (n : Int) - 1) (h : P M (qin a n)) : JC x jtbM mX12_isIn d [.long a.toInt64, .long (0 : Int64), .long K] M (jZ P) := by
  refine k_mIsIn ?_
  rw [hK, Int32.toInt_toInt64, show (0 : Int64).toInt = 0 from rfl]
  have : decide (0 ≤ a.toInt ∧ a.toInt ≤ (n : Int) - 1) = qin a n := by
    unfold qin
    congr 1
    apply propext
    omega
  rw [this]
  exact h
theorem n_status {P : jM → Int32 → Prop} (h : mI M z) (hP : ∀ M', mI M' z → P M' z.1) : JC x jtbM mX12_status d [.ref (x.2.2.2 0)] M (jI P) := by
  refine b_X12_status ?_
  rintro M1 rfl
  rw [(h.th 0).1]
  exact hP _ (h.th 0)
theorem n_top {P : jM → Int64 → Prop} (h : mI M z) (hP : ∀ M', mI M' z → P M' z.2.1.1) : JC x jtbM mX12_top d [.ref (x.2.2.2 0)] M (jL P) := by
  refine b_X12_top ?_
  rintro M1 rfl
  rw [(h.th 0).2.1]
  exact hP _ (h.th 0)
theorem n_bottom {P : jM → Int64 → Prop} (h : mI M z) (hP : ∀ M', mI M' z → P M' z.2.1.2) : JC x jtbM mX12_bottom d [.ref (x.2.2.2 0)] M (jL P) := by
  refine b_X12_bottom ?_
  rintro M1 rfl
  rw [(h.th 0).2.2.1]
  exact hP _ (h.th 0)
theorem n_fault {P : jM → Int32 → Prop} {a : Int32} (h : mI M z) (hP : ∀ M', mI M' z → P M' (sFault z a)) : JC x jtbM mX12_fault d [.ref (x.2.2.2 0), .int a] M (jI P) := by
  refine b_X12_fault ?_
  rintro M1 rfl
  have h1 := h.th 0
  have hp := hP _ h1
  unfold sFault at hp
  refine ⟨fun c => ⟨fun c2 => ?_, fun c2 => ?_⟩, fun c => ?_⟩
  · rw [if_neg c, if_neg c2] at hp; exact hp
  · rw [if_neg c, if_pos c2] at hp; rw [h1.2.2.2.2.2.2.2.1]; exact hp
  · rw [if_pos c] at hp; rw [h1.2.2.2.2.2.2.1]; exact hp
theorem n_many {P : jM → Int32 → Prop} {a : Int32} (h : mI M z) (hP : ∀ M', mI M' (sMany z a).1 → P M' (sMany z a).2) : JC x jtbM mX12_many (d + 1) [.ref (x.2.2.2 0), .int a] M (jI P) := by
  unfold sMany at hP
  refine b_X12_many ?_
  rintro M1 rfl M2 rfl
  have h2 := (h.th 0).st 0
  refine k_mIsInC 3 rfl ⟨fun c => ?_, fun c => ?_⟩
  · have n0 : ¬ a = 0 := fun e => by rw [e] at c; exact absurd c (by decide)
    have n1 : ¬ a = 1 := fun e => by rw [e] at c; exact absurd c (by decide)
    have n2 : ¬ a = 2 := fun e => by rw [e] at c; exact absurd c (by decide)
    rw [if_neg n0, if_neg n1, if_neg n2] at hP
    exact m_refuse h2 hP
  · obtain ⟨j, hj, rfl, e⟩ := qin_0 c (by omega)
    rcases (show j = 0 ∨ j = 1 ∨ j = 2 by omega) with rfl | rfl | rfl
    · refine ⟨0, by omega, rfl, ?_⟩
      rw [h2.pl.w]
      exact hP _ h2
    · refine ⟨1, by omega, rfl, ?_⟩
      rw [h2.pl.h]
      exact hP _ h2
    · refine ⟨2, by omega, rfl, ?_⟩
      rw [h2.pl.n]
      exact hP _ h2
theorem n_cell {P : jM → Int32 → Prop} {a b : Int32} (h : mI M z) (hP : ∀ M', mI M' (sCell z a b).1 → P M' (sCell z a b).2) : JC x jtbM mX12_cell (d + 2) [.ref (x.2.2.2 0), .int a, .int b] M (jI P) := by
  unfold sCell at hP
  have h25 := h.pl.wf.c25
  refine b_X12_cell ?_
  rintro M1 rfl M2 rfl
  have h2 := (h.th 0).st 0
  refine k_mIsCell h2.pl ⟨fun c => ?_, fun c => ?_⟩
  · rw [show qin a (qc (zP (uSt z 0))) = qin a (qc (zP z)) from rfl] at c
    rw [if_pos c] at hP
    obtain ⟨j, hj, rfl, e⟩ := qin_0 c (by omega)
    rw [e] at hP
    refine k_mIsInC 3 rfl ⟨fun c => ?_, fun c => ?_⟩
    · have n0 : ¬ b = 0 := fun e => by rw [e] at c; exact absurd c (by decide)
      have n1 : ¬ b = 1 := fun e => by rw [e] at c; exact absurd c (by decide)
      have n2 : ¬ b = 2 := fun e => by rw [e] at c; exact absurd c (by decide)
      rw [if_neg n0, if_neg n1, if_neg n2] at hP
      exact m_refuse h2 hP
    · obtain ⟨k, hk, rfl, e⟩ := qin_0 c (by omega)
      rcases (show k = 0 ∨ k = 1 ∨ k = 2 by omega) with rfl | rfl | rfl
      · refine ⟨3 + j, by omega, by rw [jn3, jn25, pk_mul, nI_add, nI_add], ?_⟩
        rw [h2.pl.most (by omega)]
        exact hP _ h2
      · refine ⟨28 + j, by omega, by rw [jn3, jn25, pk_mul, nI_add, nI_add], ?_⟩
        rw [h2.pl.least (by omega)]
        exact hP _ h2
      · refine ⟨53 + j, by omega, by rw [jn3, jn25, pk_mul, nI_add, nI_add], ?_⟩
        rw [h2.pl.price (by omega)]
        exact hP _ h2
  · rw [show qin a (qc (zP (uSt z 0))) = qin a (qc (zP z)) from rfl] at c
    rw [c] at hP
    exact m_refuse h2 hP
theorem n_village {P : jM → Int32 → Prop} {a b : Int32} (h : mI M z) (hP : ∀ M', mI M' (sVillage z a b).1 → P M' (sVillage z a b).2) : JC x jtbM mX12_village (d + 2) [.ref (x.2.2.2 0), .int a, .int b] M (jI P) := by
  unfold sVillage at hP
  have h6 := h.pl.wf.2.2.2.1
  refine b_X12_village ?_
  rintro M1 rfl M2 rfl
  have h2 := (h.th 0).st 0
  refine k_mIsVillage h2.pl ⟨fun c => ?_, fun c => ?_⟩
  · rw [show qin a (qn (zP (uSt z 0))) = qin a (qn (zP z)) from rfl] at c
    rw [if_pos c] at hP
    obtain ⟨j, hj, rfl, e⟩ := qin_0 c (by omega)
    rw [e] at hP
    refine k_mIsInC 3 rfl ⟨fun c => ⟨fun n0 => ⟨fun n1 => ?_, fun n1 => ?_⟩, fun n0 => ?_⟩, fun c => ?_⟩
    · obtain ⟨k, hk, rfl, e⟩ := qin_0 c (by omega)
      have k2 : k = 2 := by
        rcases (show k = 0 ∨ k = 1 ∨ k = 2 by omega) with rfl | rfl | rfl
        · exact absurd rfl n0
        · exact absurd rfl n1
        · rfl
      subst k2
      rw [if_neg n0, if_neg n1, if_pos (show nI 2 = 2 from rfl)] at hP
      refine ⟨84 + j, by omega, by rw [jn84, nI_add], ?_⟩
      rw [h2.pl.has hj]
      exact hP _ h2
    · rw [if_neg n0, if_pos n1] at hP
      exact k_mStrips h2.pl hj (hP _ h2)
    · rw [if_pos n0] at hP
      refine ⟨78 + j, by omega, by rw [jn78, nI_add], ?_⟩
      rw [h2.pl.side hj]
      exact hP _ h2
    · have n0 : ¬ b = 0 := fun e => by rw [e] at c; exact absurd c (by decide)
      have n1 : ¬ b = 1 := fun e => by rw [e] at c; exact absurd c (by decide)
      have n2 : ¬ b = 2 := fun e => by rw [e] at c; exact absurd c (by decide)
      rw [if_neg n0, if_neg n1, if_neg n2] at hP
      exact m_refuse h2 hP
  · rw [show qin a (qn (zP (uSt z 0))) = qin a (qn (zP z)) from rfl] at c
    rw [c] at hP
    exact m_refuse h2 hP
theorem n_promised {P : jM → Int32 → Prop} {a b : Int32} (h : mI M z) (hP : ∀ M', mI M' (sPromised z a b).1 → P M' (sPromised z a b).2) : JC x jtbM mX12_promised (d + 3) [.ref (x.2.2.2 0), .int a, .int b] M (jI P) := by
  unfold sPromised at hP
  have h6 := h.pl.wf.2.2.2.1
  refine b_X12_promised ?_
  rintro M1 rfl M2 rfl
  have h2 := (h.th 0).st 0
  refine k_mIsStrip h2.pl ⟨fun c => ?_, fun c => ?_⟩
  · rw [if_pos (show (qin a (qn (zP z)) && qin b (qSt (zP z) a.toNatClampNeg)) = true from c)] at hP
    rw [Bool.and_eq_true] at c
    obtain ⟨c1, c2⟩ := c
    obtain ⟨j, hj, rfl, e⟩ := qin_0 c1 (by have : qn (zP (uSt z 0)) = qn (zP z) := rfl; omega)
    rw [e] at hP c2
    have h9 := qSt_le h2.pl.wf j
    obtain ⟨s, hs, rfl, e2⟩ := qin_0 c2 (by omega)
    rw [e2] at hP
    have hj6 : j < 6 := Nat.lt_of_lt_of_le hj h6
    refine ⟨84 + j, by omega, by rw [jn84, nI_add], ?_⟩
    rw [h2.pl.has hj, jb_0]
    refine ⟨fun q => ⟨90 + (j * 9 + s), by omega, by rw [jn90, jn9, pk_mul, nI_add, nI_add, Nat.mul_comm 9 j, Nat.add_assoc], ?_⟩, fun q => ?_⟩
    · have q' : (qk (zP z)).testBit j = true := by
        have : ¬ (qk (zP z)).testBit j = false := q
        revert this; cases (qk (zP z)).testBit j <;> simp
      rw [h2.pl.line hj q' hs]
      rw [if_pos q'] at hP
      exact hP _ h2
    · rw [show (qk (zP z)).testBit j = false from q] at hP
      exact m_refuse h2 hP
  · rw [show (qin a (qn (zP z)) && qin b (qSt (zP z) a.toNatClampNeg)) = false from c] at hP
    exact m_refuse h2 hP
theorem n_strip {P : jM → Int32 → Prop} {a b : Int32} (h : mI M z) (hP : ∀ M', mI M' (sStrip z a b).1 → P M' (sStrip z a b).2) : JC x jtbM mX12_strip (d + 2) [.ref (x.2.2.2 0), .int a, .int b] M (jI P) := by
  unfold sStrip at hP
  have h25 := h.pl.wf.c25
  refine b_X12_strip ?_
  rintro M1 rfl M2 rfl
  have h2 := (h.th 0).st 0
  refine k_mIsInC 8 rfl ⟨fun c => ?_, fun c => k_mIsCell h2.pl ⟨fun c2 => ?_, fun c2 => ?_⟩⟩
  · rw [c] at hP; exact m_refuse h2 hP
  · rw [c, show qin b (qc (zP z)) = false from c2] at hP; exact m_refuse h2 hP
  · rw [c, show qin b (qc (zP z)) = true from c2] at hP
    obtain ⟨j, hj, rfl, e⟩ := qin_0 c (by omega)
    obtain ⟨k, hk, rfl, e2⟩ := qin_0 c2 (by have : qc (zP (uSt z 0)) = qc (zP z) := rfl; omega)
    rw [e, e2] at hP
    exact k_mStripOf h2.pl hj hk (hP _ h2)
theorem n_height {P : jM → Int32 → Prop} {a : Int32} (h : mI M z) (hP : ∀ M', mI M' (sHeight z a).1 → P M' (sHeight z a).2) : JC x jtbM mX12_height (d + 2) [.ref (x.2.2.2 0), .int a] M (jI P) := by
  unfold sHeight at hP
  have h25 := h.pl.wf.c25
  refine b_X12_height ?_
  rintro M1 rfl M2 rfl
  have h2 := (h.th 0).st 0
  refine k_mIsCell h2.pl ⟨fun c => ?_, fun c => ?_⟩
  · rw [show qin a (qc (zP z)) = false from c] at hP; exact m_refuse h2 hP
  · rw [if_pos (show qin a (qc (zP z)) = true from c)] at hP
    obtain ⟨j, hj, rfl, e⟩ := qin_0 c (by have : qc (zP (uSt z 0)) = qc (zP z) := rfl; omega)
    rw [e] at hP
    refine ⟨144 + j, by have : qc (zP (uSt z 0)) = qc (zP z) := rfl; omega, by rw [jn144, nI_add], ?_⟩
    rw [h2.tn.1 j hj]
    exact hP _ h2
theorem n_build {P : jM → Bool → Prop} {a b : Int32} (h : mI M z) (hP : ∀ M', mI M' (sBuild z a b).1 → P M' (sBuild z a b).2) : JC x jtbM mX12_build (d + 2) [.ref (x.2.2.2 0), .int a, .int b] M (jZ P) := by
  unfold sBuild at hP
  have h25 := h.pl.wf.c25
  refine b_X12_build ?_
  rintro M1 rfl M2 rfl
  have h2 := (h.th 0).st 0
  generalize jrI (jrI M 0 (upd (M.1 0) 1 0)) 0 (upd ((jrI M 0 (upd (M.1 0) 1 0)).1 0) 0 0) = M2 at h2 ⊢
  refine k_mIsCell h2.pl ⟨fun c => ?_, fun c => ?_⟩
  · rw [if_pos (show qin a (qc (zP z)) = true from c)] at hP
    obtain ⟨j, hj, rfl, e⟩ := qin_0 c (by have : qc (zP (uSt z 0)) = qc (zP z) := rfl; omega)
    have hj' : j < qc (zP z) := hj
    rw [e] at hP
    refine k_mIsInC 100 rfl ⟨fun c2 => ⟨144 + j, by omega, by rw [jn144, nI_add], ?_⟩, fun c2 => ?_⟩
    · rw [if_pos c2] at hP
      obtain ⟨k, hk, rfl, e2⟩ := qin_0 c2 (by omega)
      rw [e2] at hP
      rintro M3 rfl
      refine hP _ (mI.setTn (z := uSt z 0) h2 (fun q hq => jrI_n hq) rfl (fun k hk => by rw [jrI_s, pk_un (by omega)]) (fun c hc => ?_) (tset_le h2.tn.2 (by omega)))
      rw [jrI_s]
      unfold tset
      by_cases q : c = j
      · rw [q, pk_us, if_pos rfl]
      · rw [pk_un (by omega), if_neg q]; exact h2.tn.1 c hc
    · rw [c2] at hP; exact m_no h2 hP
  · rw [show qin a (qc (zP z)) = false from c] at hP; exact m_no h2 hP
theorem n_seen {P : jM → Int32 → Prop} {a b : Int32} (h : mI M z) (hP : ∀ M', mI M' (sSeen z a b).1 → P M' (sSeen z a b).2) : JC x jtbM mX12_seen (d + 3) [.ref (x.2.2.2 0), .int a, .int b] M (jI P) := by
  unfold sSeen at hP
  have h6 := h.pl.wf.2.2.2.1
  refine b_X12_seen ?_
  rintro M1 rfl M2 rfl
  have h2 := (h.th 0).st 0
  refine k_mIsStrip h2.pl ⟨fun c => ?_, fun c => ?_⟩
  · rw [show (qin a (qn (zP z)) && qin b (qSt (zP z) a.toNatClampNeg)) = false from c] at hP
    exact m_refuse h2 hP
  · rw [if_pos (show (qin a (qn (zP z)) && qin b (qSt (zP z) a.toNatClampNeg)) = true from c)] at hP
    rw [Bool.and_eq_true] at c
    obtain ⟨c1, c2⟩ := c
    obtain ⟨j, hj, rfl, e⟩ := qin_0 c1 (by have : qn (zP (uSt z 0)) = qn (zP z) := rfl; omega)
    rw [e] at hP c2
    have h9 := qSt_le h2.pl.wf j
    obtain ⟨s, hs, rfl, e2⟩ := qin_0 c2 (by omega)
    rw [e2] at hP
    have hj6 : j < 6 := Nat.lt_of_lt_of_le hj h6
    refine ⟨78 + j, by omega, by rw [jn78, nI_add], ?_⟩
    rw [h2.pl.side hj]
    exact k_mSeenFrom h2.pl h2.tn (h2.pl.wf.2.2.2.2.2.2.2.2.2.1 j) (by omega) (hP _ h2)
theorem n_stone {P : jM → Int32 → Prop} (h : mI M z) (hP : ∀ M', mI M' (sStone z).1 → P M' (sStone z).2) : JC x jtbM mX12_stone (d + 2) [.ref (x.2.2.2 0)] M (jI P) := by
  refine b_X12_stone ?_
  rintro M1 rfl M2 rfl
  have h2 := (h.th 0).st 0
  exact k_mStoneNow h2.pl h2.tn (hP _ h2)
theorem n_otherwise {P : jM → Int32 → Prop} {a : Int32} (h : mI M z) (hP : ∀ M', mI M' (sOtherwise z a).1 → P M' (sOtherwise z a).2) : JC x jtbM mX12_otherwise (d + 2) [.ref (x.2.2.2 0), .int a] M (jI P) := by
  unfold sOtherwise at hP
  have h6 := h.pl.wf.2.2.2.1
  refine b_X12_otherwise ?_
  rintro M1 rfl M2 rfl
  have h2 := (h.th 0).st 0
  generalize jrI (jrI M 0 (upd (M.1 0) 1 0)) 0 (upd ((jrI M 0 (upd (M.1 0) 1 0)).1 0) 0 0) = M2 at h2 ⊢
  have pl2 : mPl (M2.1 5) (zP z) := h2.pl
  have tn2 : mTn (M2.1 5) (zP z) (zT z) := h2.tn
  refine k_mIsInC 2 rfl ⟨fun c => ?_, fun c => ?_⟩
  · rw [if_pos c] at hP
    refine jloop (fun i (_ : Unit) => JW x jtbM mX12_otherwise (d + 2) (jI P) 28 [(0, .ref (x.2.2.2 0)), (1, .int a), (2, .int (nI i))] [] M2) (fun i _ => ∀ v, v < i → ((qk (zP z)).testBit v && decide (qUs (zP z) (zT z) v < qSt (zP z) v)) = false) (qn (zP z)) ?_ ?_ 0 () (Nat.zero_le _) (fun j hj => absurd hj (Nat.not_lt_zero _))
    · rintro _ hI
      refine b_X12_otherwise_28 ?_
      rw [pl2.n]
      refine pk_le (qn (zP z)) (qn (zP z)) (fun _ => ?_) (fun c => absurd c (by omega))
      rw [if_neg (by unfold qUv; rw [qFst_no hI]; omega)] at hP
      exact m_refuse h2 hP
    · rintro v _ hv hI ih
      have h9 := qSt_le pl2.wf v
      refine b_X12_otherwise_28 ?_
      rw [pl2.n]
      refine pk_le (qn (zP z)) v (fun c => absurd c (by omega)) (fun _ => ?_)
      refine jloop (fun s (_ : Unit) => JW x jtbM mX12_otherwise (d + 2) (jI P) 40 [(0, .ref (x.2.2.2 0)), (1, .int a), (2, .int (nI v)), (3, .int (nI s))] [] M2) (fun s _ => (qk (zP z)).testBit v = true → ∀ s', s' < s → decide (¬ qG (qw (zP z)) (qh (zP z)) (qSide (zP z) v) s' (zT z) (qc (zP z)) = qLine (zP z) v s') = false) (qSt (zP z) v) ?_ ?_ 0 () (Nat.zero_le _) (fun _ j hj => absurd hj (Nat.not_lt_zero _))
      · rintro _ hK
        refine b_X12_otherwise_40 (k_mStrips pl2 hv (pk_le (qSt (zP z) v) (qSt (zP z) v) (fun _ => ?_) (fun c => absurd c (by omega))))
        rw [nI_1]
        refine ih () (fun j hj => ?_)
        rcases Nat.lt_or_ge j v with q | q
        · exact hI j q
        · obtain rfl : j = v := by omega
          cases hk : (qk (zP z)).testBit j with
          | false => rfl
          | true =>
            have : qUs (zP z) (zT z) j = qSt (zP z) j := qFst_no (hK hk)
            rw [decide_eq_false (by omega), Bool.and_false]
      · rintro s _ hs hK ihs
        refine b_X12_otherwise_40 (k_mStrips pl2 hv (pk_le (qSt (zP z) v) s (fun c => absurd c (by omega)) (fun _ => ⟨84 + v, by omega, by rw [jn84, nI_add], ?_⟩)))
        rw [pl2.has hv, jb_t]
        simp only [nI_1]
        refine ⟨fun q => ihs () (fun q2 => absurd q2 q), fun hk => ⟨78 + v, by omega, by rw [jn78, nI_add], ?_⟩⟩
        rw [pl2.side hv]
        refine k_mSeenFrom pl2 tn2 (pl2.wf.2.2.2.2.2.2.2.2.2.1 v) (by omega) ⟨90 + (v * 9 + s), by omega, by rw [jn90, jn9, pk_mul, nI_add, nI_add, Nat.mul_comm 9 v, Nat.add_assoc], ?_⟩
        rw [pl2.line hv hk hs]
        have g1 := qG_le (w := qw (zP z)) (h := qh (zP z)) (side := qSide (zP z) v) (s := s) tn2.2 (qc (zP z))
        have g2 := pl2.wf.2.2.2.2.2.2.2.2.2.2 v s
        rw [nI_eq (by omega) (by omega)]
        refine ⟨fun q => ihs () (fun _ j hj => ?_), fun q => ?_⟩
        · rcases Nat.lt_or_ge j s with q2 | q2
          · exact hK hk j q2
          · obtain rfl : j = s := by omega
            simp [q]
        · have es : qUs (zP z) (zT z) v = s := qFst_at (hK hk) (decide_eq_true q) hs
          have ev : qUv (zP z) (zT z) = v := qFst_at hI (by rw [hk, decide_eq_true (by omega)]; rfl) hv
          rw [ev, if_pos hv, es] at hP
          refine ⟨fun c0 => ?_, fun c0 => ?_⟩
          · rw [if_neg c0] at hP; exact hP _ h2
          · rw [if_pos c0] at hP; exact hP _ h2
  · rw [c] at hP; exact m_refuse h2 hP
theorem qCap_ask {pl : qP} {ask : Nat} {want : Nat → Nat → Nat} {c v : Nat} (ha : ask.testBit v = true) : ∀ {n : Nat}, v < n → qCap pl ask want c n ≤ want v (qFv pl v c)
  | 0, h => absurd h (Nat.not_lt_zero _)
  | n + 1, h => by
    show (if ask.testBit n then min (qCap pl ask want c n) (want n (qFv pl n c)) else qCap pl ask want c n) ≤ _
    rcases Nat.lt_or_ge v n with q | q
    · have ih := qCap_ask (pl := pl) (want := want) (c := c) ha q
      split
      · exact Nat.le_trans (Nat.min_le_left _ _) ih
      · exact ih
    · obtain rfl : v = n := by omega
      rw [if_pos ha]
      exact Nat.min_le_right _ _
/-- ask and canKeep -/
theorem k_mKeep {P : jM → Bool → Prop} {set : Nat} (hset : set < 64) (h : mI M z) (hP : ∀ M', mI M' z → mSi M' (zP z) (pAsk (zP z) set) (qLine (zP z)) → mCp M' (zP z) (pCp (zP z) set) → (∀ k, k < 3 → M'.1 0 (33 + k) = qBar (zP z) (pAsk (zP z) set) (qLine (zP z)) (pCp (zP z) set) k) → P M' (pCan (zP z) set)) : JC x jtbM mX12_ask (d + 2) [.ref (x.2.2.2 0), .int (nI set)] M (jV fun M1 => JC x jtbM mX12_canKeep (d + 2) [.ref (x.2.2.2 0)] M1 (jZ P)) := by
  refine k_mAsk hset h.pl (fun M1 g1 g2 g3 g4 => ?_)
  have h1 : mI M1 z := h.keep (mSame.row (g1.mono (fun q hq => by unfold mScr; omega)))
  refine k_mCanKeep h1.pl g3 g4 (fun v hv ha c hc => qCap_ask ha hv) (fun M2 k1 k2 k3 k4 => ?_)
  have s2 : mSame M1 M2 := ⟨fun q _ q0 _ _ => k1 q q0, fun k hk => k4 k (by unfold mScI at hk; omega), fun k _ => by rw [k2], fun k _ => by rw [(k1 5 (by omega)).1], fun k _ => by rw [k2]⟩
  refine hP M2 (h1.keep s2) ?_ ?_ k3
  · unfold mSi; rw [(k1 7 (by omega)).1, (k1 8 (by omega)).1]; exact g3
  · unfold mCp; rw [(k1 9 (by omega)).1]; exact g4
theorem n_cap {P : jM → Int32 → Prop} {a b : Int32} (h : mI M z) (hP : ∀ M', mI M' (sCap z a b).1 → P M' (sCap z a b).2) : JC x jtbM mX12_cap (d + 3) [.ref (x.2.2.2 0), .int a, .int b] M (jI P) := by
  unfold sCap at hP
  have h25 := h.pl.wf.c25
  refine b_X12_cap ?_
  rintro M1 rfl M2 rfl
  have h2 := (h.th 0).st 0
  refine k_mIsCell h2.pl ⟨fun c => ?_, fun c => k_mIsSet h2.pl ⟨fun c2 => ?_, fun c2 => ?_⟩⟩
  · rw [show qin a (qc (zP z)) = false from c] at hP; exact m_refuse h2 hP
  · rw [show qin a (qc (zP z)) = true from c, show qin b (2 ^ qn (zP z)) = true from c2] at hP
    obtain ⟨j, hj, rfl, e⟩ := qin_0 c (by have : qc (zP (uSt z 0)) = qc (zP z) := rfl; omega)
    have hj' : j < qc (zP z) := hj
    obtain ⟨k, hk, rfl, e2⟩ := qin_0 c2 (pow31 h2.pl.wf)
    rw [e, e2] at hP
    refine k_mAsk (set64 h2.pl.wf hk) h2.pl (fun M1 g1 g2 g3 g4 => ⟨j, by omega, rfl, ?_⟩)
    rw [g4.1 j hj]
    exact hP _ (h2.keep (mSame.row (g1.mono (fun q hq => by unfold mScr; omega))))
  · rw [show qin a (qc (zP z)) = true from c, show qin b (2 ^ qn (zP z)) = false from c2] at hP; exact m_refuse h2 hP
theorem n_can {P : jM → Int32 → Prop} {a : Int32} (h : mI M z) (hP : ∀ M', mI M' (sCan z a).1 → P M' (sCan z a).2) : JC x jtbM mX12_can (d + 3) [.ref (x.2.2.2 0), .int a] M (jI P) := by
  unfold sCan at hP
  refine b_X12_can ?_
  rintro M1 rfl M2 rfl
  have h2 := (h.th 0).st 0
  refine k_mIsSet h2.pl ⟨fun c => ?_, fun c => ?_⟩
  · rw [if_pos (show qin a (2 ^ qn (zP z)) = true from c)] at hP
    obtain ⟨k, hk, rfl, e2⟩ := qin_0 c (pow31 h2.pl.wf)
    rw [e2] at hP
    refine k_mKeep (set64 h2.pl.wf hk) h2 (fun M1 h1 _ _ _ => ⟨fun q => ?_, fun q => ?_⟩)
    · rw [show pCan (zP z) k = false from q] at hP; exact hP _ h1
    · rw [show pCan (zP z) k = true from q] at hP; exact hP _ h1
  · rw [show qin a (2 ^ qn (zP z)) = false from c] at hP; exact m_refuse h2 hP
theorem n_barred {P : jM → Int32 → Prop} {a b : Int32} (h : mI M z) (hP : ∀ M', mI M' (sBarred z a b).1 → P M' (sBarred z a b).2) : JC x jtbM mX12_barred (d + 3) [.ref (x.2.2.2 0), .int a, .int b] M (jI P) := by
  unfold sBarred at hP
  refine b_X12_barred ?_
  rintro M1 rfl M2 rfl
  have h2 := (h.th 0).st 0
  refine k_mIsSet h2.pl ⟨fun c => ?_, fun c => ?_⟩
  · rw [if_pos (show qin a (2 ^ qn (zP z)) = true from c)] at hP
    obtain ⟨k, hk, rfl, e2⟩ := qin_0 c (pow31 h2.pl.wf)
    rw [e2] at hP
    refine k_mIsInC 3 rfl ⟨fun c2 => ?_, fun c2 => ?_⟩
    · rw [if_pos c2] at hP
      obtain ⟨j, hj, rfl, e3⟩ := qin_0 c2 (by omega)
      rw [e3] at hP
      refine k_mKeep (set64 h2.pl.wf hk) h2 (fun M1 h1 _ _ g => ⟨fun q => ?_, fun q => ?_⟩)
      · rw [show pCan (zP z) k = false from q] at hP
        have hp := hP _ h1
        rcases (show j = 0 ∨ j = 1 ∨ j = 2 by omega) with rfl | rfl | rfl
        · exact ⟨fun c => absurd rfl c, fun _ => by rw [g 0 (by omega)]; exact hp⟩
        · exact ⟨fun _ => ⟨fun c => absurd rfl c, fun _ => by rw [g 1 (by omega)]; exact hp⟩, fun c => absurd c (by decide)⟩
        · exact ⟨fun _ => ⟨fun _ => by rw [g 2 (by omega)]; exact hp, fun c => absurd c (by decide)⟩, fun c => absurd c (by decide)⟩
      · rw [show pCan (zP z) k = true from q] at hP; exact m_refuse h1 hP
    · rw [c2] at hP; exact m_refuse h2 hP
  · rw [show qin a (2 ^ qn (zP z)) = false from c] at hP; exact m_refuse h2 hP
theorem n_orderAt {P : jM → Int32 → Prop} {a : Int32} (h : mI M z) (hP : ∀ M', mI M' (sOrderAt z a).1 → P M' (sOrderAt z a).2) : JC x jtbM mX12_orderAt (d + 1) [.ref (x.2.2.2 0), .int a] M (jI P) := by
  unfold sOrderAt at hP
  refine b_X12_orderAt ?_
  rintro M1 rfl M2 rfl
  have h2 := (h.th 0).st 0
  obtain ⟨-, -, -, -, -, k6, -⟩ := h.ok
  rw [show (jrI (jrI M 0 (upd (M.1 0) 1 0)) 0 (upd ((jrI M 0 (upd (M.1 0) 1 0)).1 0) 0 0)).1 0 39 = nI (zOr z).1 from h2.2.2.2.2.2.2.2.2.2.2.2.1]
  refine k_mIsInN (by omega) ⟨fun c => ?_, fun c => ?_⟩
  · rw [c] at hP; exact m_refuse h2 hP
  · rw [if_pos c] at hP
    obtain ⟨j, hj, rfl, e⟩ := qin_0 c (by omega)
    rw [e] at hP
    refine ⟨j, by omega, rfl, ?_⟩
    rw [h2.2.2.2.2.2.2.2.2.2.2.2.2.1 j hj]
    exact hP _ h2
theorem n_building {P : jM → Int32 → Prop} {a : Int32} (h : mI M z) (hP : ∀ M', mI M' (sBuilding z a).1 → P M' (sBuilding z a).2) : JC x jtbM mX12_building (d + 1) [.ref (x.2.2.2 0), .int a] M (jI P) := by
  unfold sBuilding at hP
  refine b_X12_building ?_
  rintro M1 rfl M2 rfl
  have h2 := (h.th 0).st 0
  generalize jrI (jrI M 0 (upd (M.1 0) 1 0)) 0 (upd ((jrI M 0 (upd (M.1 0) 1 0)).1 0) 0 0) = M2 at h2 ⊢
  have hb := h2.2.2.2.2.2.2.2.2.2.2.2.2.2.1
  refine k_mIsInC 3 rfl ⟨fun c => ?_, fun c => ?_⟩
  · rw [if_pos c] at hP
    obtain ⟨j, hj, rfl, e⟩ := qin_0 c (by omega)
    rw [e] at hP
    rcases hb with ⟨b1, b2⟩ | ⟨b1, b2⟩
    · rw [b1]
      have e1 : zBl z j = -1 := b2 j hj
      rw [if_pos e1] at hP
      exact ⟨fun _ => m_refuse h2 hP, fun q => absurd rfl q⟩
    · rw [b1]
      have e1 : ¬ zBl z j = -1 := (b2 j hj).2
      rw [if_neg e1] at hP
      refine ⟨fun q => absurd q (by decide), fun _ => ⟨j, hj, rfl, ?_⟩⟩
      rw [(b2 j hj).1]
      exact hP _ h2
  · rw [c] at hP; exact m_refuse h2 hP
end MOP
