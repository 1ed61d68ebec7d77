/-! a tenth village; drawings all alike -/
def qTb (pl : qP) (f : Nat → Nat) (t : qT) (many side : Nat) : Bool := decide (¬ qc pl = 0) && (decide (qS (qw pl) (qh pl) side = many) && decide (∀ s, s < many → qG (qw pl) (qh pl) side s f (qc pl) = qtH t s))
def qTn (pl : qP) (f : Nat → Nat) (t : qT) (many : Nat) : Nat → Nat
  | 0 => 0
  | side + 1 => qTn pl f t many side ||| (if qTb pl f t many side then 2 ^ side else 0)
def sTenth (z : qZ) (a m : Int32) : qZ × Int32 := if qTold z a m 1 9 1 = 0 then an z (nI (qTn (zP z) (zT z) (zTr z a.toNatClampNeg) m.toNatClampNeg 8)) else rf z (qTold z a m 1 9 1)
theorem qtH_L {t : qT} {k g : Nat} (h : qht (t.2.2.2 k) = true) (hg : g ≤ 99) : t.2.2.2 k = (nI g).toInt64 ↔ g = qtH t k := by
  have h1 := of_decide_eq_true h
  have e : qtH t k = (t.2.2.2 k).toInt.toNat := Nat.min_eq_right (by omega)
  rw [← Int64.toInt_inj, Int32.toInt_toInt64, nI_toInt (by omega), e]
  omega
theorem qTn_step {pl : qP} {f : Nat → Nat} {t : qT} {many side : Nat} (h : side < 31) : nI (qTn pl f t many side) ||| (if qTb pl f t many side then (1 : Int32) <<< (nI side &&& 31) else 0) = nI (qTn pl f t many (side + 1)) := by
  rw [qTn]
  cases qTb pl f t many side
  · show nI _ ||| nI 0 = _; rw [fa_or]; rfl
  · show nI _ ||| ((1 : Int32) <<< (nI side &&& 31)) = _
    rw [nI_shl1 _ h, fa_or]; rfl
section TEN
variable {x : jX} {d : Nat} {M : jM} {z : qZ}
theorem k_beginsLike {P : jM → Bool → Prop} {p o n many : Nat} {t : qT} {g : Nat → Nat} (a0 : aX9 jtbC p) (ht : cTr M p t) (so : js jtbC o = (20, n)) (hn : n < 2 ^ 31) (hmn : many ≤ n) (hm : many ≤ t.2.2.1) (hH : ∀ k, k < many → qht (t.2.2.2 k) = true) (hr : ∀ s, s < many → M.1 o s = nI (g s)) (hb : ∀ s, g s ≤ 99) (h : P M (decide (∀ s, s < many → g s = qtH t s))) : JC x jtbC mX9_beginsLike d [.ref (x.2.2.2 p), .ref (x.2.2.2 o), .int (nI many)] M (jZ P) := by
  have hl := ht.2.2.2.2.1
  refine b_X9_beginsLike ?_
  refine jloop (fun i (_ : Unit) => JW x jtbC mX9_beginsLike d (jZ P) 2 [(0, .ref (x.2.2.2 p)), (1, .ref (x.2.2.2 o)), (2, .int (nI many)), (3, .int (nI i))] [] M) (fun i _ => ∀ s, s < i → g s = qtH t s) many ?_ ?_ 0 () (Nat.zero_le _) (fun j hj => absurd hj (Nat.not_lt_zero _))
  · rintro _ hI
    refine b_X9_beginsLike_2 a0 so hn (pk_le many many (fun _ => ?_) (fun c => absurd c (by omega)))
    rw [decide_eq_true hI] at h
    exact h
  · rintro i _ hi hI ih
    refine b_X9_beginsLike_2 a0 so hn (pk_le many i (fun c => absurd c (by omega)) (fun _ => ⟨i, by omega, rfl, by omega, ?_⟩))
    rw [ht.2.2.2.2.2 i (by omega), hr i hi, qtH_L (hH i hi) (hb i), nI_1]
    refine ⟨fun c => ih () (fun s hs => ?_), fun c => ?_⟩
    · rcases Nat.lt_or_ge s i with q | q
      · exact hI s q
      · obtain rfl : s = i := by omega
        exact c
    · rw [decide_eq_false (fun w => c (w i hi))] at h
      exact h
theorem o_tenth {P : jM → Int32 → Prop} {a m : Int32} (h : cI M z) (hP : ∀ M', cI M' (sTenth z a m).1 → P M' (sTenth z a m).2) : JC x jtbC mX11_tenth (d + 3) [.ref (x.2.2.2 0), .int a, .int m] M (jI P) := by
  unfold sTenth at hP
  have w := h.pl.wf
  have h25 := w.c25
  refine b_X11_tenth (k_told (lo := 1) (hi := 9) (e := 1) (by omega) (by omega) (by omega) h ⟨fun c => ?_, fun c => ?_⟩)
  · rw [if_pos c] at hP
    obtain ⟨t, many, ht, rfl, e1, m1, m2, rfl, e2, tt, r1, r2⟩ := qTold_0 (by omega) c
    rw [e1, e2] at hP
    rw [Nat.mul_one] at r1 r2
    refine jloop2 (fun i (M3 : jM) (s : Int32) => JW x jtbC mX11_tenth (d + 3) (jI P) 27 [(0, .ref (x.2.2.2 0)), (1, .int (nI t)), (2, .int (nI many)), (4, .int s), (5, .int (nI i))] [] M3) (fun i M3 s => cI M3 z ∧ s = nI (qTn (zP z) (zT z) (zTr z t) many i)) 8 ?_ ?_ 0 M 0 (Nat.zero_le _) ⟨h, rfl⟩
    · rintro M3 _ ⟨g, rfl⟩
      exact b_X11_tenth_27 (pk_le 8 8 (fun _ => c_answered g hP) (fun c => absurd c (by omega)))
    · rintro i M3 _ hi ⟨g, rfl⟩ ih
      have stp := qTn_step (pl := zP z) (f := zT z) (t := zTr z t) (many := many) (side := i) (by omega)
      have h9 := qS_le (side := i) w.1 w.2.1
      refine b_X11_tenth_27 (pk_le 8 i (fun c => absurd c (by omega)) (fun _ => k_stripsFrom atC5_30 g.pl hi ?_))
      have l9 : (if qc (zP z) = 0 then 0 else qS (qw (zP z)) (qh (zP z)) i) ≤ 9 := by split <;> omega
      rw [nI_eq (by omega) (by omega), nI_1]
      refine ⟨fun q => ?_, fun q => ?_⟩
      · have no : qTb (zP z) (zT z) (zTr z t) many i = false := by
          unfold qTb
          by_cases e : qc (zP z) = 0
          · rw [decide_eq_false (fun n => n e)]; rfl
          · rw [if_neg e] at q
            rw [decide_eq_false q, Bool.false_and, Bool.and_false]
        refine ih M3 _ ⟨g, ?_⟩
        rw [no] at stp
        rw [← stp, if_neg (by decide)]
        show _ = nI _ ||| nI 0
        rw [fa_or, Nat.or_zero]
      · have c0 : ¬ qc (zP z) = 0 := fun e => by rw [if_pos e] at q; omega
        rw [if_neg c0] at q
        refine k_lookFrom (a := 0) atC5_30 g.pl sC_39 (by decide) sC_72 (by decide) h25 (fun c hc => g.tw c (by omega)) g.t9 hi (by omega) (by omega) (by omega) (by omega) (fun M4 g1 g2 _ g4 => ?_)
        have h4 : cI M4 z := g.scr (g1.mono (fun q hq => by unfold cScr; omega))
        refine ⟨t, ht, rfl, k_beginsLike (g := fun s => qG (qw (zP z)) (qh (zP z)) i s (zT z) (qc (zP z))) (at9 ht) (h4.tr ht) sC_72 (by decide) (by omega) r1 r2 (fun s hs => by have := g2 s (by omega); rw [Nat.zero_add] at this; exact this) (fun s => qG_le g.t9 _) ?_⟩
        have e : qTb (zP z) (zT z) (zTr z t) many i = decide (∀ s, s < many → qG (qw (zP z)) (qh (zP z)) i s (zT z) (qc (zP z)) = qtH (zTr z t) s) := by
          unfold qTb
          rw [decide_eq_true c0, decide_eq_true q, Bool.true_and, Bool.true_and]
        rw [← e]
        refine ⟨fun b => ih M4 _ ⟨h4, ?_⟩, fun b => ih M4 _ ⟨h4, ?_⟩⟩
        · rw [← stp, b]; rfl
        · rw [← stp, b]; rfl
  · rw [if_neg c] at hP
    exact c_refused h hP
theorem n_tenth {P : jM → Int32 → Prop} {a m : Int32} (h : mI M z) (hP : ∀ M', mI M' (sTenth z a m).1 → P M' (sTenth z a m).2) : JC x jtbM mX12_tenth (d + 2) [.ref (x.2.2.2 0), .int a, .int m] M (jI P) := by
  unfold sTenth at hP
  have w := h.pl.wf
  have h25 := w.c25
  refine b_X12_tenth ?_
  rintro M1 rfl M2 rfl
  have h2 := (h.th 0).st 0
  generalize jrI (jrI M 0 (upd (M.1 0) 1 0)) 0 (upd ((jrI M 0 (upd (M.1 0) 1 0)).1 0) 0 0) = M2 at h2 ⊢
  have hp : mPl (M2.1 5) (zP z) := h2.pl
  have no : ∀ r : Int32, qTold z a m 1 9 1 = r → ¬ r = 0 → JC x jtbM mX12_refuse (d + 1) [.ref (x.2.2.2 0), .int r] M2 (jI fun M11 r6 => P M11 r6) := fun r e ne => by
    rw [if_neg (by rw [e]; exact ne), e] at hP
    exact m_refuse h2 hP
  refine k_mIsTray ⟨fun q => ?_, fun q => no 1 (by unfold qTold; rw [q]; rfl) (by decide)⟩
  obtain ⟨t, ht, rfl, e1⟩ := qin_0 q (by omega)
  have t1 : mTr M2 t (zTr z t) := h2.tr ht
  refine ⟨t, ht, rfl, ?_⟩
  rw [(tr_there t1).2]
  refine ⟨fun c1 => ?_, fun c1 => no 3 (by unfold qTold; rw [if_pos q, e1, if_neg c1]) (by decide)⟩
  refine k_mIsIn ?_
  rw [show decide ((1 : Int64).toInt ≤ m.toInt64.toInt ∧ m.toInt64.toInt ≤ (9 : Int64).toInt) = qrg m 1 9 by rw [Int32.toInt_toInt64]; rfl]
  refine ⟨fun c2 => ?_, fun c2 => no 5 (by unfold qTold; rw [if_pos q, e1, if_pos c1, c2]; rfl) (by decide)⟩
  obtain ⟨many, m1, m2, rfl, e2⟩ := qrg_t c2 (by omega)
  have told : qTold z (nI t) (nI many) 1 9 1 = nI (qRs (zTr z t) many) := by
    unfold qTold
    rw [if_pos q, e1, if_pos c1, if_pos c2, e2, Nat.mul_one]
  have l5 := qRs_le (zTr z t) many
  refine m_wrongRow (z := uSt z 0) h2 ht c1 (by omega) ?_
  show (nI (qRs (zTr z t) many) ≤ 0 → _) ∧ (¬ nI (qRs (zTr z t) many) ≤ 0 → _)
  rcases Nat.eq_zero_or_pos (qRs (zTr z t) many) with u | u
  · rw [u] at told ⊢
    refine ⟨fun _ => ?_, fun n => absurd (show nI 0 ≤ (0 : Int32) by decide) n⟩
    rw [if_pos (show _ = (0 : Int32) from told), e1, e2] at hP
    obtain ⟨r1, r2⟩ := qRs_0 u
    refine jloop (fun i (s : Int32) => JW x jtbM mX12_tenth (d + 2) (jI P) 80 [(0, .ref (x.2.2.2 0)), (1, .int (nI t)), (2, .int (nI many)), (4, .int s), (5, .int (nI i))] [] M2) (fun i s => s = nI (qTn (zP z) (zT z) (zTr z t) many i)) 8 ?_ ?_ 0 0 (Nat.zero_le _) rfl
    · rintro _ rfl
      exact b_X12_tenth_80 (pk_le 8 8 (fun _ => hP _ h2) (fun c => absurd c (by omega)))
    · rintro i _ hi rfl ih
      have stp := qTn_step (pl := zP z) (f := zT z) (t := zTr z t) (many := many) (side := i) (by omega)
      have h9 := qS_le (side := i) w.1 w.2.1
      have fin : ∀ b, b = qTb (zP z) (zT z) (zTr z t) many i → JW x jtbM mX12_tenth (d + 2) (jI P) 170 [(0, .ref (x.2.2.2 0)), (1, .int (nI t)), (2, .int (nI many)), (4, .int (nI (qTn (zP z) (zT z) (zTr z t) many i))), (5, .int (nI i)), (6, .int (jb b))] [] M2 := fun b hb => by
        refine b_X12_tenth_170 ?_
        rw [nI_1]
        rw [← hb] at stp
        cases b
        · exact ⟨fun _ => ih _ (by rw [← stp]; rfl), fun c => absurd rfl c⟩
        · exact ⟨fun c => absurd c (by decide), fun _ => ih _ (by rw [← stp]; rfl)⟩
      have zero : qTb (zP z) (zT z) (zTr z t) many i = false → JW x jtbM mX12_tenth (d + 2) (jI P) 126 [(0, .ref (x.2.2.2 0)), (1, .int (nI t)), (2, .int (nI many)), (4, .int (nI (qTn (zP z) (zT z) (zTr z t) many i))), (5, .int (nI i)), (6, .int (0 : Int32)), (7, .int (0 : Int32))] [] M2 := fun hb => by
        refine b_X12_tenth_126 (pk_le many 0 (fun c => absurd c (by omega)) (fun _ => ⟨fun _ => fin false hb.symm, fun c => absurd rfl c⟩))
      refine b_X12_tenth_80 (pk_le 8 i (fun c => absurd c (by omega)) (fun _ => ?_))
      by_cases c0 : qc (zP z) = 0
      · have tb : qTb (zP z) (zT z) (zTr z t) many i = false := by
          unfold qTb
          rw [decide_eq_false (fun n => n c0)]; rfl
        have any : ∀ r : Int32, (¬ r = nI many → JW x jtbM mX12_tenth (d + 2) (jI P) 126 [(0, .ref (x.2.2.2 0)), (1, .int (nI t)), (2, .int (nI many)), (4, .int (nI (qTn (zP z) (zT z) (zTr z t) many i))), (5, .int (nI i)), (6, .int (0 : Int32)), (7, .int (0 : Int32))] [] M2) ∧ (r = nI many → JC x jtbM mX12_cells (d + 1) [.ref (x.2.2.2 0)] M2 (jI fun M2 r2 => (r2 ≤ 0 → JW x jtbM mX12_tenth (d + 2) (jI P) 126 [(0, .ref (x.2.2.2 0)), (1, .int (nI t)), (2, .int (nI many)), (4, .int (nI (qTn (zP z) (zT z) (zTr z t) many i))), (5, .int (nI i)), (6, .int (0 : Int32)), (7, .int (0 : Int32))] [] M2) ∧ (¬ r2 ≤ 0 → JW x jtbM mX12_tenth (d + 2) (jI P) 126 [(0, .ref (x.2.2.2 0)), (1, .int (nI t)), (2, .int (nI many)), (4, .int (nI (qTn (zP z) (zT z) (zTr z t) many i))), (5, .int (nI i)), (6, .int (1 : Int32)), (7, .int (0 : Int32))] [] M2))) := fun r => by
          refine ⟨fun _ => zero tb, fun _ => k_mCells hp ?_⟩
          rw [c0]
          exact ⟨fun _ => zero tb, fun n => absurd (show nI 0 ≤ (0 : Int32) by decide) n⟩
        exact b_X12_stripsOf ⟨fun _ => ⟨fun _ => any _, fun _ => any _⟩, fun _ => any _⟩
      · have w0 : 0 < qw (zP z) := by
          rcases Nat.eq_zero_or_pos (qw (zP z)) with e | e
          · exact absurd (by unfold qc; rw [e, Nat.zero_mul]) c0
          · exact e
        rw [hp.w, hp.h]
        refine k_mStripsOf hi w0 ?_
        rw [nI_eq (by omega) (by omega)]
        refine ⟨fun q => zero (by unfold qTb; rw [decide_eq_false q, Bool.false_and, Bool.and_false]), fun q => k_mCells hp ?_⟩
        refine pk_le (qc (zP z)) 0 (fun c => absurd c (by omega)) (fun _ => ?_)
        have tb : qTb (zP z) (zT z) (zTr z t) many i = decide (∀ s, s < many → qG (qw (zP z)) (qh (zP z)) i s (zT z) (qc (zP z)) = qtH (zTr z t) s) := by
          unfold qTb
          rw [decide_eq_true c0, decide_eq_true q, Bool.true_and, Bool.true_and]
        refine jloop (fun j (b : Bool) => JW x jtbM mX12_tenth (d + 2) (jI P) 126 [(0, .ref (x.2.2.2 0)), (1, .int (nI t)), (2, .int (nI many)), (4, .int (nI (qTn (zP z) (zT z) (zTr z t) many i))), (5, .int (nI i)), (6, .int (jb b)), (7, .int (nI j))] [] M2) (fun j b => b = decide (∀ s, s < j → qG (qw (zP z)) (qh (zP z)) i s (zT z) (qc (zP z)) = qtH (zTr z t) s)) many ?_ ?_ 0 true (Nat.zero_le _) (by rw [decide_eq_true]; intro s hs; exact absurd hs (Nat.not_lt_zero _))
        · rintro b hb
          exact b_X12_tenth_126 (pk_le many many (fun _ => fin b (hb.trans tb.symm)) (fun c => absurd c (by omega)))
        · rintro j b hj hb ihj
          refine b_X12_tenth_126 (pk_le many j (fun c => absurd c (by omega)) (fun _ => ?_))
          rw [jb_0]
          refine ⟨fun e => fin b ?_, fun e => ?_⟩
          · rw [tb, e]
            rw [e] at hb
            exact (decide_eq_false (fun n => of_decide_eq_false hb.symm (fun s hs => n s (by omega)))).symm
          · have eb : b = true := by revert e; cases b <;> simp
            rw [eb] at hb
            have all := of_decide_eq_true hb.symm
            refine k_mSeenFrom (pl := zP z) (f := zT z) hp h2.tn hi (by omega) ?_
            refine m_numberOf (z := uSt z 0) h2 ht c1 (Nat.lt_of_lt_of_le hj r1) ?_
            have q1 := qG_le (w := qw (zP z)) (h := qh (zP z)) (side := i) (s := j) h.tn.2 (qc (zP z))
            show (¬ (nI (qG (qw (zP z)) (qh (zP z)) i j (zT z) (qc (zP z)))).toInt64 = (zTr z t).2.2.2 j → _) ∧ ((nI (qG (qw (zP z)) (qh (zP z)) i j (zT z) (qc (zP z)))).toInt64 = (zTr z t).2.2.2 j → _)
            rw [eq_comm (a := (nI (qG (qw (zP z)) (qh (zP z)) i j (zT z) (qc (zP z)))).toInt64), qtH_L (r2 j hj) q1, nI_1]
            refine ⟨fun c => ihj false ?_, fun c => ihj true ?_⟩
            · exact (decide_eq_false (fun n => c (n j (by omega)))).symm
            · refine (decide_eq_true (fun s hs => ?_)).symm
              rcases Nat.lt_or_ge s j with g | g
              · exact all s g
              · obtain rfl : s = j := by omega
                exact c
  · rw [show (nI (qRs (zTr z t) many) ≤ 0) = (nI (qRs (zTr z t) many) ≤ (0 : Int32)) from rfl]
    exact ⟨fun c => absurd c (nI_nle u (Nat.lt_of_le_of_lt l5 (by decide))), fun _ => no _ told (nI_ne0 u (Nat.lt_of_le_of_lt l5 (by decide)))⟩
end TEN
