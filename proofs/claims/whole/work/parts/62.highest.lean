def qLs (pl : qP) (f : Nat → Nat) (v b : Nat) : Nat → Nat
  | 0 => b
  | s + 1 => min (qLs pl f v b s) (qG (qw pl) (qh pl) (qSide pl v) s f (qc pl))
def qLo (pl : qP) (f : Nat → Nat) : Nat → Nat
  | 0 => 99
  | v + 1 => qLs pl f v (qLo pl f v) (qSt pl v)
theorem qLs_le {pl : qP} {f : Nat → Nat} {v b n : Nat} : ∀ {m : Nat}, n ≤ qLs pl f v b m ↔ n ≤ b ∧ ∀ s, s < m → n ≤ qG (qw pl) (qh pl) (qSide pl v) s f (qc pl)
  | 0 => ⟨fun h => ⟨h, fun s hs => absurd hs (Nat.not_lt_zero _)⟩, fun h => h.1⟩
  | m + 1 => by
    show n ≤ min _ _ ↔ _
    rw [Nat.le_min, qLs_le]
    constructor
    · rintro ⟨⟨h1, h2⟩, h3⟩
      refine ⟨h1, fun s hs => ?_⟩
      rcases Nat.lt_or_ge s m with q | q
      · exact h2 s q
      · obtain rfl : s = m := by omega
        exact h3
    · rintro ⟨h1, h2⟩
      exact ⟨⟨h1, fun s hs => h2 s (by omega)⟩, h2 m (by omega)⟩
theorem qLo_le {pl : qP} {f : Nat → Nat} {n : Nat} : ∀ {m : Nat}, n ≤ qLo pl f m ↔ n ≤ 99 ∧ ∀ v, v < m → ∀ s, s < qSt pl v → n ≤ qG (qw pl) (qh pl) (qSide pl v) s f (qc pl)
  | 0 => ⟨fun h => ⟨h, fun s hs => absurd hs (Nat.not_lt_zero _)⟩, fun h => h.1⟩
  | m + 1 => by
    show n ≤ qLs _ _ _ _ _ ↔ _
    rw [qLs_le, qLo_le]
    constructor
    · rintro ⟨⟨h1, h2⟩, h3⟩
      refine ⟨h1, fun s hs => ?_⟩
      rcases Nat.lt_or_ge s m with q | q
      · exact h2 s q
      · obtain rfl : s = m := by omega
        exact h3
    · rintro ⟨h1, h2⟩
      exact ⟨⟨h1, fun s hs => h2 s (by omega)⟩, h2 m (by omega)⟩
theorem qCap_const {pl : qP} {n c : Nat} : ∀ {v : Nat}, v < qn pl → qCap pl (qAll pl) (fun _ _ => n) c (v + 1) = min (qMost pl c) n
  | 0, h => by
    show (if (qAll pl).testBit 0 then min (qMost pl c) n else qMost pl c) = _
    unfold qAll
    rw [pow_all h]; rfl
  | v + 1, h => by
    have ih := qCap_const (pl := pl) (n := n) (c := c) (v := v) (by omega)
    show (if (qAll pl).testBit (v + 1) then min (qCap pl (qAll pl) (fun _ _ => n) c (v + 1)) n else qCap pl (qAll pl) (fun _ _ => n) c (v + 1)) = _
    rw [ih]
    split <;> omega
theorem qCp_const {pl : qP} {n c : Nat} (h : 0 < qn pl) : qCp pl (qAll pl) (fun _ _ => n) c = min (qMost pl c) n := by
  obtain ⟨v, hv⟩ : ∃ v, qn pl = v + 1 := ⟨qn pl - 1, by omega⟩
  unfold qCp
  rw [hv]
  exact qCap_const (by omega)
theorem qG_min {w h side s n : Nat} {f : Nat → Nat} : ∀ m, qG w h side s (fun c => min (f c) n) m = min (qG w h side s f m) n
  | 0 => by show 0 = min 0 n; omega
  | m + 1 => by
    show (if qF w h side m = s then max (qG w h side s (fun c => min (f c) n) m) (min (f m) n) else qG w h side s (fun c => min (f c) n) m) = min (if qF w h side m = s then max (qG w h side s f m) (f m) else qG w h side s f m) n
    rw [qG_min m]
    split <;> omega
theorem high_iff {pl : qP} {n : Nat} (h : 0 < qn pl) (hn : n ≤ 99) : qCan pl (qAll pl) (fun _ _ => n) (qCp pl (qAll pl) (fun _ _ => n)) = true ↔ (∀ c, c < qc pl → qLeast pl c ≤ min (qMost pl c) n) ∧ n ≤ qLo pl (qMost pl) (qn pl) := by
  rw [qCan_iff, qLo_le]
  have e : qCp pl (qAll pl) (fun _ _ => n) = fun c => min (qMost pl c) n := funext (fun c => qCp_const h)
  rw [e]
  constructor
  · rintro ⟨h1, h2⟩
    refine ⟨h1, hn, fun v hv s hs => ?_⟩
    have := h2 v hv (pow_all hv) s hs
    rw [qG_min] at this
    omega
  · rintro ⟨h1, _, h2⟩
    refine ⟨h1, fun v hv _ s hs => ?_⟩
    rw [qG_min]
    have := h2 v hv s hs
    omega
def sHighest (z : qZ) : qZ × Int32 := if qn (zP z) = 0 then rf z 8 else if qCan (zP z) (qAll (zP z)) (fun _ _ => qLo (zP z) (qMost (zP z)) (qn (zP z))) (qCp (zP z) (qAll (zP z)) (fun _ _ => qLo (zP z) (qMost (zP z)) (qn (zP z)))) then an z (nI (qLo (zP z) (qMost (zP z)) (qn (zP z)))) else rf z 8
section HGH
variable {x : jX} {d : Nat} {M : jM} {z : qZ}
theorem k_lowest {P : jM → Int32 → Prop} (h : cI M z) (hP : ∀ M', cI M' z → P M' (nI (qLo (zP z) (qMost (zP z)) (qn (zP z))))) : JC x jtbC mX5_lowestSight (d + 2) [.ref (x.2.2.2 30), .ref (x.2.2.2 31)] M (jI P) := by
  have w := h.pl.wf
  have h25 := w.c25
  have h6 := w.2.2.2.1
  refine b_X5_lowestSight ?_
  refine jloop2 (fun i (M3 : jM) (s : Int32) => JW x jtbC mX5_lowestSight (d + 2) (jI P) 5 [(0, .ref (x.2.2.2 30)), (1, .ref (x.2.2.2 31)), (2, .int s), (3, .int (nI i))] [] M3) (fun i M3 s => cI M3 z ∧ s = nI (qLo (zP z) (qMost (zP z)) i)) (qn (zP z)) ?_ ?_ 0 M 99 (Nat.zero_le _) ⟨h, rfl⟩
  · rintro M3 _ ⟨g, rfl⟩
    refine b_X5_lowestSight_5 atC5_30 ?_
    rw [g.pl.n]
    exact pk_le (qn (zP z)) (qn (zP z)) (fun _ => hP M3 g) (fun c => absurd c (by omega))
  · rintro i M3 _ hi ⟨g, rfl⟩ ih
    obtain ⟨w1, w2, w3⟩ := qn_pos w hi
    have h9 := qSt_le w i
    have h9' : qS (qw (zP z)) (qh (zP z)) (qSide (zP z) i) ≤ 9 := h9
    have s8 := w.2.2.2.2.2.2.2.2.2.1 i
    refine b_X5_lowestSight_5 atC5_30 ?_
    rw [g.pl.n]
    refine pk_le (qn (zP z)) i (fun c => absurd c (by omega)) (fun _ => ⟨i, by omega, rfl, ?_⟩)
    rw [g.pl.side hi]
    refine k_lookFrom (a := 0) (f := qMost (zP z)) atC5_30 g.pl sC_31 (by decide) sC_38 (by decide) h25 (fun c hc => g.pl.most (by omega)) w.2.2.2.2.2.2.1 s8 (by omega) (by omega) (by omega) w3 (fun M4 g1 g2 _ g4 => ?_)
    have h4 : cI M4 z := g.scr (g1.mono (fun q hq => by unfold cScr; omega))
    refine jloop (fun j (s : Int32) => JW x jtbC mX5_lowestSight (d + 2) (jI P) 32 [(0, .ref (x.2.2.2 30)), (1, .ref (x.2.2.2 31)), (2, .int s), (3, .int (nI i)), (4, .int (nI j))] [] M4) (fun j s => s = nI (qLs (zP z) (qMost (zP z)) i (qLo (zP z) (qMost (zP z)) i) j)) (qSt (zP z) i) ?_ ?_ 0 (nI (qLo (zP z) (qMost (zP z)) i)) (Nat.zero_le _) rfl
    · rintro _ rfl
      refine b_X5_lowestSight_32 atC5_30 (k_stripsOf atC5_30 h4.pl hi (pk_le (qSt (zP z) i) (qSt (zP z) i) (fun _ => ?_) (fun c => absurd c (by omega))))
      rw [nI_1]
      exact ih M4 _ ⟨h4, rfl⟩
    · rintro j _ hj rfl ihj
      refine b_X5_lowestSight_32 atC5_30 (k_stripsOf atC5_30 h4.pl hi (pk_le (qSt (zP z) i) j (fun c => absurd c (by omega)) (fun _ => ⟨j, by omega, rfl, ?_⟩)))
      have a1 := g2 j hj
      rw [Nat.zero_add] at a1
      rw [show M4.1 (30 + 8) j = _ from a1]
      have b1 : qLo (zP z) (qMost (zP z)) i ≤ 99 := (qLo_le.mp (Nat.le_refl _)).1
      have b2 : qLs (zP z) (qMost (zP z)) i (qLo (zP z) (qMost (zP z)) i) j ≤ 99 := Nat.le_trans (qLs_le.mp (Nat.le_refl _)).1 b1
      have b3 := qG_le (w := qw (zP z)) (h := qh (zP z)) (side := qSide (zP z) i) (s := j) w.2.2.2.2.2.2.1 (qc (zP z))
      refine k_minN (by omega) (by omega) ?_
      rw [nI_1]
      exact ihj _ rfl
theorem o_highest {P : jM → Int32 → Prop} (h : cI M z) (hP : ∀ M', cI M' (sHighest z).1 → P M' (sHighest z).2) : JC x jtbC mX11_highest (d + 4) [.ref (x.2.2.2 0)] M (jI P) := by
  unfold sHighest at hP
  have w := h.pl.wf
  have h6 := w.2.2.2.1
  refine b_X11_highest ?_
  rw [h.pl.n, show (nI (qn (zP z)) = (0 : Int32)) = (nI (qn (zP z)) = nI 0) from rfl, nI_eq (by omega) (by omega)]
  refine ⟨fun n0 => k_lowest h (fun M1 h1 => k_fillI sC_72 (by decide) (fun M2 g1 g2 g3 => ?_)), fun n0 => by rw [if_pos n0] at hP; exact c_refused h hP⟩
  rw [if_neg n0] at hP
  have h2 : cI M2 z := h1.scr (g1.mono (fun q hq => by unfold cScr; omega))
  have b1 : qLo (zP z) (qMost (zP z)) (qn (zP z)) ≤ 99 := (qLo_le.mp (Nat.le_refl _)).1
  refine k_wantKeep (want := fun _ _ => qLo (zP z) (qMost (zP z)) (qn (zP z))) h2 (fun _ _ => b1) (fun v s hv hs => ?_) (fun M4 h4 => ⟨fun b => ?_, fun b => ?_⟩)
  · have := qSt_le w v
    exact g3 _ (by omega)
  · rw [b] at hP; exact c_refused h4 hP
  · rw [b] at hP; exact c_answered h4 hP
theorem n_highest {P : jM → Int32 → Prop} (h : mI M z) (hP : ∀ M', mI M' (sHighest z).1 → P M' (sHighest z).2) : JC x jtbM mX12_highest (d + 3) [.ref (x.2.2.2 0)] M (jI P) := by
  unfold sHighest at hP
  have w := h.pl.wf
  have h25 := w.c25
  have h6 := w.2.2.2.1
  refine b_X12_highest ?_
  rintro M1 rfl M2 rfl
  have h2 := (h.th 0).st 0
  generalize jrI (jrI M 0 (upd (M.1 0) 1 0)) 0 (upd ((jrI M 0 (upd (M.1 0) 1 0)).1 0) 0 0) = M2 at h2 ⊢
  rw [h2.pl.n, show (nI (qn (zP (uSt z 0))) = (0 : Int32)) = (nI (qn (zP z)) = nI 0) from rfl, nI_eq (by omega) (by omega)]
  refine ⟨fun n0 => ?_, fun n0 => by rw [if_pos n0] at hP; exact m_refuse h2 hP⟩
  rw [if_neg n0] at hP
  have H9 : qLo (zP z) (qMost (zP z)) (qn (zP z)) ≤ 99 := (qLo_le.mp (Nat.le_refl _)).1
  have main : ∀ k M3, k ≤ 100 → mI M3 (uSt z 0) → (∀ n, k ≤ n → n ≤ 99 → qCan (zP z) (qAll (zP z)) (fun _ _ => n) (qCp (zP z) (qAll (zP z)) (fun _ _ => n)) = false) → JW x jtbM mX12_highest (d + 3) (jI P) 29 [(0, .ref (x.2.2.2 0)), (1, .int (nI k - 1))] [] M3 := by
    intro k
    induction k with
    | zero =>
      intro M3 _ g hno
      refine b_X12_highest_29 ⟨fun _ => ?_, fun c => absurd (by decide) c⟩
      rw [hno _ (Nat.zero_le _) H9] at hP
      exact m_refuse g hP
    | succ k ih =>
      intro M3 hk g hno
      rw [show nI (k + 1) - 1 = nI k from nI_pred k]
      refine b_X12_highest_29 ⟨fun c => absurd c (nI_pos (by omega)), fun _ => ?_⟩
      refine jloop (fun i (M4 : jM) => JW x jtbM mX12_highest (d + 3) (jI P) 35 [(0, .ref (x.2.2.2 0)), (1, .int (nI k)), (2, .int (nI i))] [] M4) (fun i M4 => mI M4 (uSt z 0) ∧ (∀ v, v < i → M4.1 7 v = 1) ∧ ∀ v s, v < i → s < qSt (zP z) v → M4.1 8 (v * 9 + s) = nI k) (qn (zP z)) ?_ ?_ 0 M3 (Nat.zero_le _) ⟨g, fun v hv => absurd hv (Nat.not_lt_zero _), fun v s hv => absurd hv (Nat.not_lt_zero _)⟩
      · rintro M4 ⟨g4, a1, a2⟩
        refine b_X12_highest_35 ?_
        rw [g4.pl.n]
        refine pk_le (qn (zP z)) (qn (zP z)) (fun _ => ?_) (fun c => absurd c (by omega))
        refine m_tellKeep (z := uSt z 0) (ask := qAll (zP z)) (want := fun _ _ => k) g4 ⟨fun v hv => ?_, fun _ _ => (show k ≤ 99 by omega), fun v s hv _ hs => a2 v s hv hs⟩ (fun M5 h5 _ _ => ⟨fun b => ?_, fun b => ?_⟩)
        · rw [a1 v hv]
          unfold qAll
          rw [pow_all (show v < qn (zP z) from hv)]; rfl
        · rw [show nI k + (-1) = nI k - 1 by rw [Int32.sub_eq_add_neg]]
          refine ih M5 (by omega) h5 (fun n h1 h2 => ?_)
          rcases Nat.lt_or_ge k n with u | u
          · exact hno n u h2
          · obtain rfl : n = k := by omega
            exact b
        · have bk : qCan (zP z) (qAll (zP z)) (fun _ _ => k) (qCp (zP z) (qAll (zP z)) (fun _ _ => k)) = true := b
          have b' := (high_iff (by omega) (by omega)).mp bk
          have top : qCan (zP z) (qAll (zP z)) (fun _ _ => qLo (zP z) (qMost (zP z)) (qn (zP z))) (qCp (zP z) (qAll (zP z)) (fun _ _ => qLo (zP z) (qMost (zP z)) (qn (zP z)))) = true := (high_iff (by omega) H9).mpr ⟨fun c hc => by have := b'.1 c hc; have := b'.2; omega, Nat.le_refl _⟩
          have e : qLo (zP z) (qMost (zP z)) (qn (zP z)) = k := by
            rcases Nat.lt_or_ge k (qLo (zP z) (qMost (zP z)) (qn (zP z))) with u | u
            · have := hno _ u H9
              rw [top] at this
              cases this
            · have := b'.2
              omega
          rw [if_pos top, e] at hP
          exact hP _ h5
      · rintro i M4 hi ⟨g4, a1, a2⟩ ihi
        refine b_X12_highest_35 ?_
        rw [g4.pl.n]
        refine pk_le (qn (zP z)) i (fun c => absurd c (by omega)) (fun _ => ⟨i, by omega, rfl, ?_⟩)
        intro M5 e5
        have g5 : mI M5 (uSt z 0) := by
          rw [e5]
          exact g4.keep (mSame.row ((jsame.I (S := fun q => q = 7) rfl).mono (fun q hq => by unfold mScr; omega)))
        have b1 : ∀ v, v < i + 1 → M5.1 7 v = 1 := fun v hv => by
          rw [e5, jrI_s]
          by_cases u : v = i
          · rw [u, pk_us]
          · rw [pk_un u]; exact a1 v (by omega)
        have b2 : ∀ v s, v < i → s < qSt (zP z) v → M5.1 8 (v * 9 + s) = nI k := fun v s hv hs => by
          rw [e5, jrI_n (by omega)]; exact a2 v s hv hs
        clear e5
        have h9 := qSt_le w i
        refine jloop (fun j (M6 : jM) => JW x jtbM mX12_highest (d + 3) (jI P) 54 [(0, .ref (x.2.2.2 0)), (1, .int (nI k)), (2, .int (nI i)), (3, .int (nI j))] [] M6) (fun j M6 => mI M6 (uSt z 0) ∧ (∀ v, v < i + 1 → M6.1 7 v = 1) ∧ (∀ v s, v < i → s < qSt (zP z) v → M6.1 8 (v * 9 + s) = nI k) ∧ ∀ s, s < j → M6.1 8 (i * 9 + s) = nI k) (qSt (zP z) i) ?_ ?_ 0 M5 (Nat.zero_le _) ⟨g5, b1, b2, fun v hv => absurd hv (Nat.not_lt_zero _)⟩
        · rintro M6 ⟨k1, k2, k3, k4⟩
          refine b_X12_highest_54 (k_mStrips (pl := zP z) k1.pl hi (pk_le (qSt (zP z) i) (qSt (zP z) i) (fun _ => ?_) (fun c => absurd c (by omega))))
          rw [nI_1]
          refine ihi M6 ⟨k1, k2, fun v s hv hs => ?_⟩
          rcases Nat.lt_or_ge v i with u | u
          · exact k3 v s u hs
          · obtain rfl : v = i := by omega
            exact k4 s hs
        · rintro j M6 hj ⟨k1, k2, k3, k4⟩ ihj
          refine b_X12_highest_54 (k_mStrips (pl := zP z) k1.pl hi (pk_le (qSt (zP z) i) j (fun c => absurd c (by omega)) (fun _ => ⟨i * 9 + j, by omega, by rw [jn9, pk_mul, nI_add, Nat.mul_comm], ?_⟩)))
          intro M7 e7
          rw [nI_1]
          refine ihj M7 ⟨?_, fun v hv => ?_, fun v s hv hs => ?_, fun s hs => ?_⟩
          · rw [e7]
            exact k1.keep (mSame.row ((jsame.I (S := fun q => q = 8) rfl).mono (fun q hq => by unfold mScr; omega)))
          · rw [e7, jrI_n (by omega)]; exact k2 v hv
          · have := qSt_le w v
            rw [e7, jrI_s, pk_un (by omega)]; exact k3 v s hv hs
          · rw [e7, jrI_s]
            by_cases u : s = j
            · rw [u, pk_us]
            · rw [pk_un (by omega)]; exact k4 s (by omega)
  exact main 100 M2 (by omega) h2 (fun n h1 h2 => absurd h1 (by omega))
end HGH
