/-! built and tally, of the model -/
def mMs (z : qZ) (N0 N : jM) (s : qR) : Prop := mI N (uTn z (rT s)) ∧ jsame (fun q => q = 0 ∨ q = 5) N0 N ∧ N.1 0 42 = nI (rD s) ∧ N.1 0 43 = nI (rS s) ∧ N.1 0 44 = nI (rL s) ∧ N.1 0 45 = nI (rK s) ∧ N.1 0 46 = nI (rF s) ∧ N.1 0 50 = jb (rO s) ∧ rOk s
section MBU
variable {x : jX} {d : Nat} {M M0 : jM} {z : qZ} {s : qR}
theorem mMs.pl (h : mMs z M0 M s) : mPl (M.1 5) (zP z) := h.1.pl
theorem mMs.tn (h : mMs z M0 M s) : mTn (M.1 5) (zP z) (rT s) := h.1.tn
theorem mMs.or (h : mMs z M0 M s) : mOr (M.1 5) (zP z) (zNw z).2.2 := (mWd0 h.1.nw).2.2.2
/-- a slot of row 0 -/
theorem mMs.slot {k : Nat} {v : Int32} {s' : qR} (h : mMs z M0 M s) (hk : mScI k) (hT : rT s' = rT s) (e42 : (jrI M 0 (upd (M.1 0) k v)).1 0 42 = nI (rD s')) (e43 : (jrI M 0 (upd (M.1 0) k v)).1 0 43 = nI (rS s')) (e44 : (jrI M 0 (upd (M.1 0) k v)).1 0 44 = nI (rL s')) (e45 : (jrI M 0 (upd (M.1 0) k v)).1 0 45 = nI (rK s')) (e46 : (jrI M 0 (upd (M.1 0) k v)).1 0 46 = nI (rF s')) (e50 : (jrI M 0 (upd (M.1 0) k v)).1 0 50 = jb (rO s')) (ok : rOk s') : mMs z M0 (jrI M 0 (upd (M.1 0) k v)) s' :=
  ⟨by rw [hT]; exact h.1.keep (mSame.slot hk), h.2.1.tr (jsame.I (Or.inl rfl)), e42, e43, e44, e45, e46, e50, ok⟩
theorem m_changeUp {P : jM → Prop} {c m : Nat} (h : mMs z M0 M s) (hc : c < qc (zP z)) (hm : 1 ≤ m) (hm2 : m ≤ 99) (ok : rOk (qLay s c m)) (hP : ∀ M', mMs z M0 M' (qLay s c m) → P M') : JC x jtbM mX12_change (d + 1) [.ref (x.2.2.2 0), .int (nI c), .int (nI m)] M (jV P) := by
  have c25 := h.pl.wf.c25
  have t9 := h.tn.2
  have t := t9 c
  refine b_X12_change ⟨144 + c, by omega, by rw [jn144, nI_add], ?_⟩
  rw [h.tn.1 c hc, nI_add]
  refine k_minN (a := 99) (by omega) (by omega) (k_maxN (a := 0) (by omega) (by omega) ?_)
  have e : max 0 (min 99 (rT s c + m)) = rT s c + min m (99 - rT s c) := by omega
  rw [e]
  intro M3 e3
  refine ⟨fun q => absurd q (nI_nle hm (by omega)), fun _ => ?_⟩
  have x5 : M3.1 5 (144 + c) = nI (rT s c + min m (99 - rT s c)) := by rw [e3, jrI_s, pk_us]
  have x0 : M3.1 0 = M.1 0 := by rw [e3, jrI_n (by omega)]
  rw [x5, x0, h.2.2.2.2.1, pk_sub (by omega), nI_add, Nat.add_sub_cancel_left]
  intro M5 e5
  have h3 : mI M3 (uTn z (rT (qLay s c m))) := by
    rw [e3]
    refine mI.setTn (z := uTn z (rT s)) (f := rT (qLay s c m)) h.1 (fun q hq => jrI_n hq) rfl (fun k hk => by rw [jrI_s, pk_un (by omega)]) (fun c' hc' => ?_) ok.1
    rw [jrI_s]
    show _ = nI (tset (rT s) c (rT s c + min m (99 - rT s c)) c')
    unfold tset
    by_cases q : c' = c
    · rw [if_pos q, q, pk_us]
    · rw [if_neg q, pk_un (by omega)]; exact h.tn.1 c' hc'
  refine hP M5 ⟨?_, ?_, ?_, ?_, ?_, ?_, ?_, ?_, ok⟩
  · rw [e5, ← x0]; exact h3.keep (mSame.slot (by unfold mScI; omega))
  · rw [e5, e3]; exact (h.2.1.tr (jsame.I (Or.inr rfl))).tr (jsame.I (Or.inl rfl))
  · rw [e5, jrI_s, pk_un (by omega)]; exact h.2.2.1
  · rw [e5, jrI_s, pk_un (by omega)]; exact h.2.2.2.1
  · rw [e5, jrI_s, pk_us]; rfl
  · rw [e5, jrI_s, pk_un (by omega)]; exact h.2.2.2.2.2.1
  · rw [e5, jrI_s, pk_un (by omega)]; exact h.2.2.2.2.2.2.1
  · rw [e5, jrI_s, pk_un (by omega)]; exact h.2.2.2.2.2.2.2.1
theorem m_changeDown {P : jM → Prop} {c m : Nat} {b : Int32} (hb : b = -(nI m)) (h : mMs z M0 M s) (hc : c < qc (zP z)) (hm : 1 ≤ m) (hm2 : m ≤ 99) (ok : rOk (qTake s c m)) (hP : ∀ M', mMs z M0 M' (qTake s c m) → P M') : JC x jtbM mX12_change (d + 1) [.ref (x.2.2.2 0), .int (nI c), .int b] M (jV P) := by
  have c25 := h.pl.wf.c25
  have t9 := h.tn.2
  have t := t9 c
  subst hb
  refine b_X12_change ⟨144 + c, by omega, by rw [jn144, nI_add], ?_⟩
  rw [h.tn.1 c hc, ← Int32.sub_eq_add_neg]
  have lt : nI (rT s c) - nI m < (99 : Int32) := by
    rw [Int32.lt_iff_toInt_lt, pk_sub_toInt (by omega) (by omega), show (99 : Int32).toInt = 99 from rfl]
    omega
  refine k_min ?_
  rw [if_pos lt]
  refine k_maxS (by omega) (by omega) ?_
  have e : rT s c - m = rT s c - min m (rT s c) := by omega
  rw [e]
  intro M3 e3
  have neg : -(nI m) ≤ (0 : Int32) := by
    rw [Int32.le_iff_toInt_le, fb_negI (by rw [nI_toInt (by omega)]; omega), nI_toInt (by omega), show (0 : Int32).toInt = 0 from rfl]
    omega
  refine ⟨fun _ => ?_, fun q => absurd neg q⟩
  have x5 : M3.1 5 (144 + c) = nI (rT s c - min m (rT s c)) := by rw [e3, jrI_s, pk_us]
  have x0 : M3.1 0 = M.1 0 := by rw [e3, jrI_n (by omega)]
  rw [x5, x0, h.2.2.2.2.2.1, pk_sub (by omega), nI_add, show rT s c - (rT s c - min m (rT s c)) = min m (rT s c) by omega]
  intro M5 e5
  have h3 : mI M3 (uTn z (rT (qTake s c m))) := by
    rw [e3]
    refine mI.setTn (z := uTn z (rT s)) (f := rT (qTake s c m)) h.1 (fun q hq => jrI_n hq) rfl (fun k hk => by rw [jrI_s, pk_un (by omega)]) (fun c' hc' => ?_) ok.1
    rw [jrI_s]
    show _ = nI (tset (rT s) c (rT s c - min m (rT s c)) c')
    unfold tset
    by_cases q : c' = c
    · rw [if_pos q, q, pk_us]
    · rw [if_neg q, pk_un (by omega)]; exact h.tn.1 c' hc'
  refine hP M5 ⟨?_, ?_, ?_, ?_, ?_, ?_, ?_, ?_, ok⟩
  · rw [e5, ← x0]; exact h3.keep (mSame.slot (by unfold mScI; omega))
  · rw [e5, e3]; exact (h.2.1.tr (jsame.I (Or.inr rfl))).tr (jsame.I (Or.inl rfl))
  · rw [e5, jrI_s, pk_un (by omega)]; exact h.2.2.1
  · rw [e5, jrI_s, pk_un (by omega)]; exact h.2.2.2.1
  · rw [e5, jrI_s, pk_un (by omega)]; exact h.2.2.2.2.1
  · rw [e5, jrI_s, pk_us]; rfl
  · rw [e5, jrI_s, pk_un (by omega)]; exact h.2.2.2.2.2.2.1
  · rw [e5, jrI_s, pk_un (by omega)]; exact h.2.2.2.2.2.2.2.1
theorem m_compares {P : jM → Bool → Prop} {v n w : Nat} {sg : Int32} (hw : w + 8 ≤ 2060) (hv : v < 2 ^ 31) (hn : n < 2 ^ 31) (e5 : M.1 5 (w + 5) = sg) (e6 : M.1 5 (w + 6) = nI n) (h : P M (qCmp v sg n)) : JC x jtbM mX12_compares d [.ref (x.2.2.2 0), .int (nI v), .int (nI w)] M (jZ P) := by
  unfold qCmp at h
  refine b_X12_compares ⟨w + 5, by omega, by rw [jn5, nI_add], ?_⟩
  rw [e5]
  refine ⟨fun c => ⟨fun c2 => ⟨w + 6, by omega, by rw [jn6, nI_add], ?_⟩, fun c2 => ⟨w + 6, by omega, by rw [jn6, nI_add], ?_⟩⟩, fun c => ⟨w + 6, by omega, by rw [jn6, nI_add], ?_⟩⟩
  · rw [e6, nI_eq hv hn]
    rw [if_neg c, if_neg c2] at h
    exact ⟨fun q => by rw [decide_eq_false q] at h; exact h, fun q => by rw [decide_eq_true q] at h; exact h⟩
  · rw [e6, nI_leI hv hn]
    rw [if_neg c, if_pos c2] at h
    exact ⟨fun q => by rw [decide_eq_false (by omega)] at h; exact h, fun q => by rw [decide_eq_true (by omega)] at h; exact h⟩
  · rw [e6, nI_leI hn hv]
    rw [if_pos c] at h
    exact ⟨fun q => by rw [decide_eq_false (by omega)] at h; exact h, fun q => by rw [decide_eq_true (by omega)] at h; exact h⟩
theorem m_cellOf {P : jM → Int32 → Prop} {w X Y : Nat} {pl : qP} (hp : mPl (M.1 5) pl) (hw : w + 8 ≤ 2060) (hX : X < qw pl) (hY : Y < qh pl) (e1 : M.1 5 (w + 1) = nI X) (e2 : M.1 5 (w + 2) = nI Y) (h : P M (nI (Y * qw pl + X))) : JC x jtbM mX12_cellOf d [.ref (x.2.2.2 0), .int (nI w)] M (jI P) := by
  have w5 := hp.wf.1
  have h5 := hp.wf.2.1
  refine b_X12_cellOf ⟨w + 1, by omega, by rw [jn1, nI_add], ?_⟩
  rw [hp.w, e1]
  refine pk_le (qw pl) X (fun c => absurd c (by omega)) (fun _ => ⟨w + 2, by omega, by rw [jn2, nI_add], ?_⟩)
  rw [hp.h, e2]
  refine pk_le (qh pl) Y (fun c => absurd c (by omega)) (fun _ => ?_)
  rw [pk_mul, nI_add]
  exact h
theorem m_seesSame {P : jM → Bool → Prop} {v : Nat} {pl : qP} {t : Nat → Nat} (hp : mPl (M.1 5) pl) (ht : mTn (M.1 5) pl t) (hv : v < qn pl) (h : P M ((qk pl).testBit v && decide (¬ qUs pl t v < qSt pl v))) : JC x jtbM mX12_seesSame (d + 2) [.ref (x.2.2.2 0), .int (nI v)] M (jZ P) := by
  have w := hp.wf
  have h6 := w.2.2.2.1
  have h9 := qSt_le w v
  have s8 := w.2.2.2.2.2.2.2.2.2.1 v
  refine b_X12_seesSame (k_mIsVillage hp ?_)
  rw [qin_nI (by omega), decide_eq_true hv]
  refine ⟨fun c => (by cases c), fun _ => ⟨84 + v, by omega, by rw [jn84, nI_add], ?_⟩⟩
  rw [hp.has hv, jb_0]
  refine ⟨fun c => ?_, fun c => by rw [c, Bool.false_and] at h; exact h⟩
  have hk : (qk pl).testBit v = true := by revert c; cases (qk pl).testBit v <;> simp
  rw [hk, Bool.true_and] at h
  refine jloop (fun i (_ : Unit) => JW x jtbM mX12_seesSame (d + 2) (jZ P) 24 [(0, .ref (x.2.2.2 0)), (1, .int (nI v)), (2, .int (nI i))] [] M) (fun i _ => ∀ j, j < i → decide (¬ qG (qw pl) (qh pl) (qSide pl v) j t (qc pl) = qLine pl v j) = false) (qSt pl v) ?_ ?_ 0 () (Nat.zero_le _) (fun j hj => absurd hj (Nat.not_lt_zero _))
  · rintro _ hI
    refine b_X12_seesSame_24 (k_mStrips hp hv (pk_le (qSt pl v) (qSt pl v) (fun _ => ?_) (fun c => absurd c (by omega))))
    rw [decide_eq_true (by unfold qUs; rw [qFst_no hI]; omega)] at h
    exact h
  · rintro i _ hi hI ih
    refine b_X12_seesSame_24 (k_mStrips hp hv (pk_le (qSt pl v) i (fun c => absurd c (by omega)) (fun _ => ⟨78 + v, by omega, by rw [jn78, nI_add], ?_⟩)))
    rw [hp.side hv]
    refine k_mSeenFrom hp ht s8 (by omega) ⟨90 + (v * 9 + i), by omega, by rw [jn90, jn9, pk_mul, nI_add, nI_add]; congr 1; omega, ?_⟩
    have q1 := qG_le (w := qw pl) (h := qh pl) (side := qSide pl v) (s := i) ht.2 (qc pl)
    have q2 := w.2.2.2.2.2.2.2.2.2.2 v i
    rw [hp.line hv hk hi, nI_eq (by omega) (by omega), nI_1]
    refine ⟨fun c => ih () (fun j hj => ?_), fun c => ?_⟩
    · rcases Nat.lt_or_ge j i with q | q
      · exact hI j q
      · obtain rfl : j = i := by omega
        exact decide_eq_false (fun n => n c)
    · rw [decide_eq_false (by
        intro n
        apply n
        unfold qUs
        rw [qFst_at hI (decide_eq_true c) hi]
        exact hi)] at h
      exact h
theorem m_isSo {P : jM → Bool → Prop} {a w : Nat} {pl : qP} {o : qO} {t : Nat → Nat} (hp : mPl (M.1 5) pl) (ht : mTn (M.1 5) pl t) (hw : w + 8 ≤ 2060) (hS : mStep (M.1 5) pl o a w) (h0 : o.2 0 a = 10) (hT : oTst pl o a) (h : P M (qIsSo pl o a t)) : JC x jtbM mX12_isSo (d + 3) [.ref (x.2.2.2 0), .int (nI w)] M (jZ P) := by
  have wf := hp.wf
  have c25 := wf.c25
  have h6 := wf.2.2.2.1
  obtain ⟨f1, f2, f3, f4, f5⟩ := hS.2.2.2.1 h0
  unfold qIsSo at h
  refine b_X12_isSo ⟨w + 4, by omega, by rw [jn4, nI_add], ?_⟩
  rw [f1]
  rcases hT with ⟨q, ⟨c, c1, c2⟩, _, ⟨m, _, m2, m3⟩⟩ | ⟨q, ⟨v, c1, c2⟩, ⟨s, _, s2, s3⟩, _, ⟨m, _, m2, m3⟩⟩ | ⟨q, v, c1, c2⟩ | ⟨q, _, ⟨m, _, m2, m3⟩⟩
  · obtain ⟨⟨X, Y, hX, hY, g1, g2, g3⟩, g4, g5⟩ := f2 q
    rw [if_neg (by rw [q]; decide), if_pos q, oN_of c2 (by omega), oN_of m3 (by omega)] at h
    have ec : Y * qw pl + X = c := by
      have w5 := wf.1
      have h5 := wf.2.1
      have : Y * qw pl ≤ 5 * 5 := Nat.mul_le_mul (by omega) w5
      exact (nI_eq (by omega) (by omega)).mp (g1.symm.trans c2)
    rw [q]
    refine ⟨fun u => absurd (show mTs 11 = 0 from rfl) u, fun _ => ?_⟩
    refine m_cellOf hp hw hX hY g2 g3 ⟨fun u => absurd u (by rw [ec]; exact nI_pos (by omega)), fun _ => m_cellOf hp hw hX hY g2 g3 ⟨144 + c, by omega, by rw [ec, jn144, nI_add], ?_⟩⟩
    have := ht.2 c
    rw [ht.1 c c1]
    refine m_compares hw (by omega) (by omega) g4 (g5.trans m3) ?_
    exact ⟨fun u => by rw [u] at h; exact h, fun u => by rw [u] at h; exact h⟩
  · obtain ⟨g1, g2, g4, g5⟩ := f3 q
    rw [if_pos q, oN_of c2 (by omega), oN_of s3 (by omega), oN_of m3 (by omega)] at h
    rw [q]
    have s8 := wf.2.2.2.2.2.2.2.2.2.1 v
    refine ⟨fun _ => ⟨fun u => absurd (show mTs 5 = 1 from rfl) u, fun _ => ⟨w + 1, by omega, by rw [jn1, nI_add], w + 2, by omega, by rw [jn2, nI_add], ?_⟩⟩, fun u => absurd u (by decide)⟩
    rw [g1, c2, g2, s3]
    refine k_mIsStrip hp ?_
    rw [qin_nI (by omega), decide_eq_true c1, Bool.true_and, nI_clamp (by omega), qin_nI (by omega)]
    by_cases u : s < qSt pl v
    · rw [decide_eq_true u, Bool.true_and] at h
      rw [decide_eq_true u]
      refine ⟨fun e => (by cases e), fun _ => ⟨78 + v, by omega, by rw [g1, c2, jn78, nI_add], ?_⟩⟩
      rw [hp.side c1, g2, s3]
      refine k_mSeenFrom hp ht s8 (by omega) ?_
      have := qG_le (w := qw pl) (h := qh pl) (side := qSide pl v) (s := s) ht.2 (qc pl)
      refine m_compares hw (by omega) (by omega) g4 (g5.trans m3) ?_
      exact ⟨fun u => by rw [u] at h; exact h, fun u => by rw [u] at h; exact h⟩
    · rw [decide_eq_false u, Bool.false_and] at h
      rw [decide_eq_false u]
      exact ⟨fun _ => h, fun e => (by cases e)⟩
  · rw [if_neg (by rw [q]; decide), if_neg (by rw [q]; decide), if_pos q, oN_of c2 (by omega)] at h
    rw [q]
    refine ⟨fun _ => ⟨fun _ => ⟨fun u => absurd (show mTs 13 = 2 from rfl) u, fun _ => ⟨w + 1, by omega, by rw [jn1, nI_add], ?_⟩⟩, fun u => absurd u (by decide)⟩, fun u => absurd u (by decide)⟩
    rw [f4 q, c2]
    exact m_seesSame hp ht c1 h
  · obtain ⟨g4, g5⟩ := f5 q
    rw [if_neg (by rw [q]; decide), if_neg (by rw [q]; decide), if_neg (by rw [q]; decide), oN_of m3 (by omega)] at h
    rw [q]
    refine ⟨fun _ => ⟨fun _ => ⟨fun _ => ?_, fun u => absurd u (by decide)⟩, fun u => absurd u (by decide)⟩, fun u => absurd u (by decide)⟩
    refine k_mStoneNow hp ht ?_
    have := qStone_le wf ht.2 (qc pl)
    have : qc pl * 9801 ≤ 25 * 9801 := Nat.mul_le_mul_right _ c25
    exact m_compares hw (by omega) (by omega) g4 (g5.trans m3) h
end MBU
