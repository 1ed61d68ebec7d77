/-! all drawings alike; the highest level sky -/
theorem qFst_lt {p : Nat → Bool} {n : Nat} : qFst p n < n ↔ ∃ i, i < n ∧ p i = true := by
  constructor
  · intro h
    exact ⟨qFst p n, h, (qFst_yes h).1⟩
  · rintro ⟨i, hi, h⟩
    apply Classical.byContradiction
    intro c
    obtain ⟨j, j1, j2, j3⟩ := fb_first (p := fun k => p k = true) (n := n) ⟨i, hi, h⟩
    have := qFst_at (p := p) (i := j) (fun k hk => by have := j3 k hk; revert this; cases p k <;> simp) j2 j1
    omega
theorem qCan_iff {pl : qP} {ask : Nat} {want : Nat → Nat → Nat} {cp : Nat → Nat} : qCan pl ask want cp = true ↔ (∀ c, c < qc pl → qLeast pl c ≤ cp c) ∧ ∀ v, v < qn pl → ask.testBit v = true → ∀ s, s < qSt pl v → qG (qw pl) (qh pl) (qSide pl v) s cp (qc pl) = want v s := by
  unfold qCan
  rw [Bool.and_eq_true, decide_eq_true_iff, decide_eq_true_iff]
  unfold qBc qBv
  rw [qFst_lt, qFst_lt]
  constructor
  · rintro ⟨h1, h2⟩
    refine ⟨fun c hc => ?_, fun v hv ha s hs => ?_⟩
    · apply Classical.byContradiction
      intro n
      exact h1 ⟨c, hc, decide_eq_true (by omega)⟩
    · apply Classical.byContradiction
      intro n
      refine h2 ⟨v, hv, ?_⟩
      rw [ha, Bool.true_and]
      refine decide_eq_true ?_
      unfold qBs
      rw [qFst_lt]
      exact ⟨s, hs, decide_eq_true n⟩
  · rintro ⟨h1, h2⟩
    refine ⟨?_, ?_⟩
    · rintro ⟨c, hc, e⟩
      have := of_decide_eq_true e
      have := h1 c hc
      omega
    · rintro ⟨v, hv, e⟩
      rw [Bool.and_eq_true] at e
      have := of_decide_eq_true e.2
      unfold qBs at this
      rw [qFst_lt] at this
      obtain ⟨s, hs, n⟩ := this
      exact of_decide_eq_true n (h2 v hv e.1 s hs)
def qLk (pl : qP) (many : Nat) : Nat := qFst (fun v => decide (¬ qSt pl v = many)) (qn pl)
def qAll (pl : qP) : Nat := 2 ^ qn pl - 1
def sLike (z : qZ) (a m : Int32) : qZ × Int32 := if qTold z a m 1 9 1 = 0 then (if qn (zP z) = 0 then rf z 8 else if qLk (zP z) m.toNatClampNeg < qn (zP z) then rf z 9 else an z (jb (qCan (zP z) (qAll (zP z)) (fun _ s => qtH (zTr z a.toNatClampNeg) s) (qCp (zP z) (qAll (zP z)) (fun _ s => qtH (zTr z a.toNatClampNeg) s))))) else rf z (qTold z a m 1 9 1)
section LIK
variable {x : jX} {d : Nat} {M : jM} {z : qZ}
theorem k_wantKeep {P : jM → Bool → Prop} {want : Nat → Nat → Nat} (h : cI M z) (hw : ∀ v s, want v s ≤ 99) (hv : ∀ v s, v < qn (zP z) → s < qSt (zP z) v → M.1 72 (v * 9 + s) = nI (want v s)) (hP : ∀ M', cI M' z → P M' (qCan (zP z) (qAll (zP z)) want (qCp (zP z) (qAll (zP z)) want))) : JC x jtbC mX8_wantFromAll (d + 3) [.ref (x.2.2.2 49), .ref (x.2.2.2 30), .ref (x.2.2.2 72)] M (jV fun M1 => JC x jtbC mX8_canBeKept (d + 3) [.ref (x.2.2.2 49), .ref (x.2.2.2 30)] M1 (jZ P)) := by
  refine k_wantFromAll (want := want) sC_72 (by decide) (by decide) (by decide) h.pl hw hv (fun M1 g1 g2 g3 g4 => ?_)
  have h1 : cI M1 z := h.scr (g1.mono (fun q hq => by unfold cScr; omega))
  refine k_canBeKept h1.pl g3 g4 (fun M2 k1 k2 k3 => ?_)
  exact hP M2 (h1.scr (k1.mono (fun q hq => by unfold cScr; omega)))
theorem m_tellKeep {P : jM → Bool → Prop} {ask : Nat} {want : Nat → Nat → Nat} (h : mI M z) (hs : mSi M (zP z) ask want) (hP : ∀ M', mI M' z → mSi M' (zP z) ask want → mCp M' (zP z) (qCp (zP z) ask want) → P M' (qCan (zP z) ask want (qCp (zP z) ask want))) : JC x jtbM mX12_tellCaps (d + 2) [.ref (x.2.2.2 0)] M (jV fun M1 => JC x jtbM mX12_canKeep (d + 2) [.ref (x.2.2.2 0)] M1 (jZ P)) := by
  refine k_mTellCaps h.pl hs (fun M1 g1 g2 g3 => ?_)
  have h1 : mI M1 z := h.keep (mSame.row (g1.mono (fun q hq => by unfold mScr; omega)))
  have s1 : mSi M1 (zP z) ask want := by
    unfold mSi; rw [(g1 7 (by omega)).1, (g1 8 (by omega)).1]; exact hs
  refine k_mCanKeep h1.pl s1 g3 (fun v hv ha c hc => qCap_ask ha hv) (fun M2 k1 k2 k3 k4 => ?_)
  have s2 : mSame M1 M2 := ⟨fun q _ q0 _ _ => k1 q q0, fun k hk => k4 k (by unfold mScI at hk; omega), fun k _ => by rw [k2], fun k _ => by rw [(k1 5 (by omega)).1], fun k _ => by rw [k2]⟩
  refine hP M2 (h1.keep s2) ?_ ?_
  · unfold mSi; rw [(k1 7 (by omega)).1, (k1 8 (by omega)).1]; exact s1
  · unfold mCp; rw [(k1 9 (by omega)).1]; exact g3
theorem o_like {P : jM → Int32 → Prop} {a m : Int32} (h : cI M z) (hP : ∀ M', cI M' (sLike z a m).1 → P M' (sLike z a m).2) : JC x jtbC mX11_like (d + 4) [.ref (x.2.2.2 0), .int a, .int m] M (jI P) := by
  unfold sLike at hP
  have w := h.pl.wf
  have h25 := w.c25
  have h6 := w.2.2.2.1
  refine b_X11_like (k_told (lo := 1) (hi := 9) (e := 1) (by omega) (by omega) (by omega) h ⟨fun c => ?_, fun c => ?_⟩)
  · rw [if_pos c] at hP
    obtain ⟨t, many, ht, rfl, e1, m1, m2, rfl, e2, tt, r1, r2⟩ := qTold_0 (by omega) c
    rw [e1, e2] at hP
    rw [Nat.mul_one] at r1 r2
    rw [h.pl.n, show (nI (qn (zP z)) = (0 : Int32)) = (nI (qn (zP z)) = nI 0) from rfl, nI_eq (by omega) (by omega)]
    refine ⟨fun n0 => ?_, fun n0 => by rw [if_pos n0] at hP; exact c_refused h hP⟩
    rw [if_neg n0] at hP
    refine jloop (fun i (M3 : jM) => JW x jtbC mX11_like (d + 4) (jI P) 48 [(0, .ref (x.2.2.2 0)), (1, .int (nI t)), (2, .int (nI many)), (4, .ref (x.2.2.2 30)), (5, .int (nI i))] [] M3) (fun i M3 => cI M3 z ∧ (∀ v, v < i → decide (¬ qSt (zP z) v = many) = false) ∧ ∀ v s, v < i → s < many → M3.1 72 (v * 9 + s) = nI (qtH (zTr z t) s)) (qn (zP z)) ?_ ?_ 0 M (Nat.zero_le _) ⟨h, fun v hv => absurd hv (Nat.not_lt_zero _), fun v s hv => absurd hv (Nat.not_lt_zero _)⟩
    · rintro M3 ⟨g, hI, rows⟩
      refine b_X11_like_48 ?_
      rw [g.pl.n]
      refine pk_le (qn (zP z)) (qn (zP z)) (fun _ => ?_) (fun c => absurd c (by omega))
      have : qLk (zP z) many = qn (zP z) := qFst_no hI
      rw [this, if_neg (by omega)] at hP
      refine k_wantKeep (want := fun _ s => qtH (zTr z t) s) g (fun _ _ => qtH_le _ _) (fun v s hv hs => rows v s hv ?_) (fun M4 h4 => ⟨fun b => ?_, fun b => ?_⟩)
      · have := of_decide_eq_false (hI v hv)
        omega
      · rw [b] at hP; exact c_answered h4 hP
      · rw [b] at hP; exact c_answered h4 hP
    · rintro i M3 hi ⟨g, hI, rows⟩ ih
      have h9 := qSt_le w i
      refine b_X11_like_48 ?_
      rw [g.pl.n]
      refine pk_le (qn (zP z)) i (fun c => absurd c (by omega)) (fun _ => k_stripsOf atC5_30 g.pl hi ?_)
      rw [nI_eq (by omega) (by omega)]
      refine ⟨fun q => ⟨t, ht, rfl, ?_⟩, fun q => ?_⟩
      · rw [jn9, pk_mul]
        refine k_copyHeights (from_ := 0) (many := many) (place := i * 9) (at9 ht) (g.tr ht) sC_72 (by decide) (by omega) (by omega) (fun k hk => by rw [Nat.zero_add]; exact r2 k hk) (fun M4 g1 g2 g3 g4 => ?_)
        rw [nI_1]
        refine ih M4 ⟨g.scr (g1.mono (fun q hq => by unfold cScr; omega)), fun v hv => ?_, fun v s hv hs => ?_⟩
        · rcases Nat.lt_or_ge v i with u | u
          · exact hI v u
          · obtain rfl : v = i := by omega
            exact decide_eq_false (fun n => n q)
        · rcases Nat.lt_or_ge v i with u | u
          · rw [g4 _ (by omega)]; exact rows v s u hs
          · obtain rfl : v = i := by omega
            have := g3 s hs
            rw [Nat.zero_add] at this
            exact this
      · have : qLk (zP z) many = i := qFst_at hI (decide_eq_true q) hi
        rw [this, if_pos hi] at hP
        exact c_refused g hP
  · rw [if_neg c] at hP
    exact c_refused h hP
theorem n_like {P : jM → Int32 → Prop} {a m : Int32} (h : mI M z) (hP : ∀ M', mI M' (sLike z a m).1 → P M' (sLike z a m).2) : JC x jtbM mX12_like (d + 3) [.ref (x.2.2.2 0), .int a, .int m] M (jI P) := by
  unfold sLike at hP
  have w := h.pl.wf
  have h25 := w.c25
  have h6 := w.2.2.2.1
  refine b_X12_like ?_
  rintro M1 rfl M2 rfl
  have h2 := (h.th 0).st 0
  generalize jrI (jrI M 0 (upd (M.1 0) 1 0)) 0 (upd ((jrI M 0 (upd (M.1 0) 1 0)).1 0) 0 0) = M2 at h2 ⊢
  have hp : mPl (M2.1 5) (zP z) := h2.pl
  have no : ∀ r : Int32, qTold z a m 1 9 1 = r → ¬ r = 0 → JC x jtbM mX12_refuse (d + 2) [.ref (x.2.2.2 0), .int r] M2 (jI fun M11 r6 => P M11 r6) := fun r e ne => by
    rw [if_neg (by rw [e]; exact ne), e] at hP
    exact m_refuse h2 hP
  refine k_mIsTray ⟨fun q => ?_, fun q => no 1 (by unfold qTold; rw [q]; rfl) (by decide)⟩
  obtain ⟨t, ht, rfl, e1⟩ := qin_0 q (by omega)
  have t1 : mTr M2 t (zTr z t) := h2.tr ht
  refine ⟨t, ht, rfl, ?_⟩
  rw [(tr_there t1).2]
  refine ⟨fun c1 => ?_, fun c1 => no 3 (by unfold qTold; rw [if_pos q, e1, if_neg c1]) (by decide)⟩
  refine k_mIsIn ?_
  rw [show decide ((1 : Int64).toInt ≤ m.toInt64.toInt ∧ m.toInt64.toInt ≤ (9 : Int64).toInt) = qrg m 1 9 by rw [Int32.toInt_toInt64]; rfl]
  refine ⟨fun c2 => ?_, fun c2 => no 5 (by unfold qTold; rw [if_pos q, e1, if_pos c1, c2]; rfl) (by decide)⟩
  obtain ⟨many, m1, m2, rfl, e2⟩ := qrg_t c2 (by omega)
  have told : qTold z (nI t) (nI many) 1 9 1 = nI (qRs (zTr z t) many) := by
    unfold qTold
    rw [if_pos q, e1, if_pos c1, if_pos c2, e2, Nat.mul_one]
  have l5 := qRs_le (zTr z t) many
  refine m_wrongRow (z := uSt z 0) h2 ht c1 (by omega) ?_
  show (nI (qRs (zTr z t) many) ≤ 0 → _) ∧ (¬ nI (qRs (zTr z t) many) ≤ 0 → _)
  rcases Nat.eq_zero_or_pos (qRs (zTr z t) many) with u | u
  · rw [u] at told ⊢
    refine ⟨fun _ => ?_, fun n => absurd (show nI 0 ≤ (0 : Int32) by decide) n⟩
    rw [if_pos (show _ = (0 : Int32) from told), e1, e2] at hP
    obtain ⟨r1, r2⟩ := qRs_0 u
    rw [hp.n, show (nI (qn (zP z)) = (0 : Int32)) = (nI (qn (zP z)) = nI 0) from rfl, nI_eq (by omega) (by omega)]
    refine ⟨fun n0 => ?_, fun n0 => by rw [if_pos n0] at hP; exact m_refuse h2 hP⟩
    rw [if_neg n0] at hP
    refine jloop (fun i (_ : Unit) => JW x jtbM mX12_like (d + 3) (jI P) 93 [(0, .ref (x.2.2.2 0)), (1, .int (nI t)), (2, .int (nI many)), (4, .int (nI i))] [] M2) (fun i _ => ∀ v, v < i → decide (¬ qSt (zP z) v = many) = false) (qn (zP z)) ?_ ?_ 0 () (Nat.zero_le _) (fun j hj => absurd hj (Nat.not_lt_zero _))
    · rintro _ hI
      refine b_X12_like_93 ?_
      rw [hp.n]
      refine pk_le (qn (zP z)) (qn (zP z)) (fun _ => ?_) (fun c => absurd c (by omega))
      have lk : qLk (zP z) many = qn (zP z) := qFst_no hI
      rw [lk, if_neg (by omega)] at hP
      refine jloop (fun i (M3 : jM) => JW x jtbM mX12_like (d + 3) (jI P) 130 [(0, .ref (x.2.2.2 0)), (1, .int (nI t)), (2, .int (nI many)), (4, .int (nI i))] [] M3) (fun i M3 => mI M3 (uSt z 0) ∧ (∀ v, v < i → M3.1 7 v = 1) ∧ ∀ v s, v < i → s < many → M3.1 8 (v * 9 + s) = nI (qtH (zTr z t) s)) (qn (zP z)) ?_ ?_ 0 M2 (Nat.zero_le _) ⟨h2, fun v hv => absurd hv (Nat.not_lt_zero _), fun v s hv => absurd hv (Nat.not_lt_zero _)⟩
      · rintro M3 ⟨g, a1, a2⟩
        refine b_X12_like_130 ?_
        rw [g.pl.n]
        refine pk_le (qn (zP z)) (qn (zP z)) (fun _ => ?_) (fun c => absurd c (by omega))
        refine m_tellKeep (z := uSt z 0) (ask := qAll (zP z)) (want := fun _ s => qtH (zTr z t) s) g ⟨fun v hv => ?_, fun _ _ => qtH_le _ _, fun v s hv _ hs => a2 v s hv ?_⟩ (fun M4 h4 _ _ => ⟨fun b => ?_, fun b => ?_⟩)
        · rw [a1 v hv]
          unfold qAll
          rw [pow_all (show v < qn (zP z) from hv)]; rfl
        · have := of_decide_eq_false (hI v hv)
          have hs' : s < qSt (zP z) v := hs
          omega
        · rw [show qCan (zP z) (qAll (zP z)) (fun _ s => qtH (zTr z t) s) (qCp (zP z) (qAll (zP z)) (fun _ s => qtH (zTr z t) s)) = false from b] at hP
          exact hP _ h4
        · rw [show qCan (zP z) (qAll (zP z)) (fun _ s => qtH (zTr z t) s) (qCp (zP z) (qAll (zP z)) (fun _ s => qtH (zTr z t) s)) = true from b] at hP
          exact hP _ h4
      · rintro i M3 hi ⟨g, a1, a2⟩ ih
        refine b_X12_like_130 ?_
        rw [g.pl.n]
        refine pk_le (qn (zP z)) i (fun c => absurd c (by omega)) (fun _ => ⟨i, by omega, rfl, ?_⟩)
        intro M4 e4
        have g4 : mI M4 (uSt z 0) := by
          rw [e4]
          exact g.keep (mSame.row ((jsame.I (S := fun q => q = 7) rfl).mono (fun q hq => by unfold mScr; omega)))
        have b1 : ∀ v, v < i + 1 → M4.1 7 v = 1 := fun v hv => by
          rw [e4, jrI_s]
          by_cases u : v = i
          · rw [u, pk_us]
          · rw [pk_un u]; exact a1 v (by omega)
        have b2 : ∀ v s, v < i → s < many → M4.1 8 (v * 9 + s) = nI (qtH (zTr z t) s) := fun v s hv hs => by
          rw [e4, jrI_n (by omega)]; exact a2 v s hv hs
        clear e4
        refine jloop (fun j (M5 : jM) => JW x jtbM mX12_like (d + 3) (jI P) 152 [(0, .ref (x.2.2.2 0)), (1, .int (nI t)), (2, .int (nI many)), (4, .int (nI i)), (5, .int (nI j))] [] M5) (fun j M5 => mI M5 (uSt z 0) ∧ (∀ v, v < i + 1 → M5.1 7 v = 1) ∧ (∀ v s, v < i → s < many → M5.1 8 (v * 9 + s) = nI (qtH (zTr z t) s)) ∧ ∀ s, s < j → M5.1 8 (i * 9 + s) = nI (qtH (zTr z t) s)) many ?_ ?_ 0 M4 (Nat.zero_le _) ⟨g4, b1, b2, fun v hv => absurd hv (Nat.not_lt_zero _)⟩
        · rintro M5 ⟨k1, k2, k3, k4⟩
          refine b_X12_like_152 (pk_le many many (fun _ => ?_) (fun c => absurd c (by omega)))
          rw [nI_1]
          refine ih M5 ⟨k1, k2, fun v s hv hs => ?_⟩
          rcases Nat.lt_or_ge v i with u | u
          · exact k3 v s u hs
          · obtain rfl : v = i := by omega
            exact k4 s hs
        · rintro j M5 hj ⟨k1, k2, k3, k4⟩ ihj
          refine b_X12_like_152 (pk_le many j (fun c => absurd c (by omega)) (fun _ => m_numberOf (z := uSt z 0) k1 ht c1 (Nat.lt_of_lt_of_le hj r1) ⟨i * 9 + j, by omega, by rw [jn9, pk_mul, nI_add, Nat.mul_comm], ?_⟩))
          intro M6 e6
          rw [nI_1]
          have q9 := qtH_eq (r2 j hj)
          refine ihj M6 ⟨?_, fun v hv => ?_, fun v s hv hs => ?_, fun s hs => ?_⟩
          · rw [e6]
            exact k1.keep (mSame.row ((jsame.I (S := fun q => q = 8) rfl).mono (fun q hq => by unfold mScr; omega)))
          · rw [e6, jrI_n (by omega)]; exact k2 v hv
          · rw [e6, jrI_s, pk_un (by omega)]; exact k3 v s hv hs
          · rw [e6, jrI_s]
            by_cases u : s = j
            · rw [u, pk_us]; exact q9
            · rw [pk_un (by omega)]; exact k4 s (by omega)
    · rintro i _ hi hI ih
      have h9 := qSt_le w i
      refine b_X12_like_93 ?_
      rw [hp.n]
      refine pk_le (qn (zP z)) i (fun c => absurd c (by omega)) (fun _ => k_mStrips hp hi ?_)
      rw [nI_eq (by omega) (by omega), nI_1]
      refine ⟨fun q => ih () (fun v hv => ?_), fun q => ?_⟩
      · rcases Nat.lt_or_ge v i with u | u
        · exact hI v u
        · obtain rfl : v = i := by omega
          exact decide_eq_false (fun n => n q)
      · have : qLk (zP z) many = i := qFst_at hI (decide_eq_true q) hi
        rw [this, if_pos hi] at hP
        exact m_refuse h2 hP
  · exact ⟨fun c => absurd c (nI_nle u (Nat.lt_of_le_of_lt l5 (by decide))), fun _ => no _ told (nI_ne0 u (Nat.lt_of_le_of_lt l5 (by decide)))⟩
end LIK
