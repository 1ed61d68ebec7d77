/-! an order of building by which nobody sees otherwise -/
theorem qG_mono {w h side s : Nat} {f g : Nat → Nat} : ∀ {n : Nat}, (∀ c, c < n → f c ≤ g c) → qG w h side s f n ≤ qG w h side s g n
  | 0, _ => Nat.le_refl _
  | n + 1, H => by
    have ih := qG_mono (w := w) (h := h) (side := side) (s := s) (f := f) (g := g) (n := n) (fun c hc => H c (by omega))
    have := H n (by omega)
    show (if qF w h side n = s then max (qG w h side s f n) (f n) else qG w h side s f n) ≤ (if qF w h side n = s then max (qG w h side s g n) (g n) else qG w h side s g n)
    split <;> omega
theorem qG_cong {w h side s : Nat} {f g : Nat → Nat} {n : Nat} (H : ∀ c, c < n → f c = g c) : qG w h side s f n = qG w h side s g n :=
  Nat.le_antisymm (qG_mono (fun c hc => Nat.le_of_eq (H c hc))) (qG_mono (fun c hc => Nat.le_of_eq (H c hc).symm))
def qAlk (pl : qP) (f t : Nat → Nat) : Bool := decide (∀ v, v < qn pl → ∀ s, s < qSt pl v → qG (qw pl) (qh pl) (qSide pl v) s t (qc pl) = qG (qw pl) (qh pl) (qSide pl v) s f (qc pl))
theorem qAlk_iff {pl : qP} {f t : Nat → Nat} : qAlk pl f t = true ↔ ∀ v, v < qn pl → ∀ s, s < qSt pl v → qG (qw pl) (qh pl) (qSide pl v) s t (qc pl) = qG (qw pl) (qh pl) (qSide pl v) s f (qc pl) := decide_eq_true_iff
theorem qAlk_cong {pl : qP} {f t t' : Nat → Nat} (h : ∀ c, c < qc pl → t c = t' c) : qAlk pl f t = qAlk pl f t' := by
  unfold qAlk
  refine decide_eq_decide.mpr ⟨fun H v hv s hs => ?_, fun H v hv s hs => ?_⟩
  · rw [← qG_cong h]; exact H v hv s hs
  · rw [qG_cong h]; exact H v hv s hs
theorem qAlk_self {pl : qP} {f : Nat → Nat} : qAlk pl f f = true := qAlk_iff.mpr (fun _ _ _ _ => rfl)
theorem order_prog {pl : qP} {f g t : Nat → Nat} (hg : qAlk pl f g = true) (ht : qAlk pl f t = true) (hne : ∃ c, c < qc pl ∧ ¬ t c = g c) : ∃ c, c < qc pl ∧ (¬ t c = g c) ∧ qAlk pl f (tset t c (g c)) = true := by
  rw [qAlk_iff] at hg ht
  by_cases r : ∃ c, c < qc pl ∧ t c < g c
  · obtain ⟨c, hc, hl⟩ := r
    refine ⟨c, hc, by omega, qAlk_iff.mpr (fun v hv s hs => Nat.le_antisymm (qG_bd (fun c' hc' e => ?_)) ?_)⟩
    · unfold tset
      by_cases q : c' = c
      · rw [if_pos q, ← hg v hv s hs, ← q]; exact qG_ge e hc'
      · rw [if_neg q, ← ht v hv s hs]; exact qG_ge e hc'
    · rw [← ht v hv s hs]
      refine qG_mono (fun c' _ => ?_)
      unfold tset
      split
      · next q => rw [q]; omega
      · exact Nat.le_refl _
  · have ge : ∀ c, c < qc pl → g c ≤ t c := fun c hc => by
      apply Classical.byContradiction
      intro n
      exact r ⟨c, hc, by omega⟩
    obtain ⟨c, hc, hn⟩ := hne
    refine ⟨c, hc, hn, qAlk_iff.mpr (fun v hv s hs => Nat.le_antisymm ?_ ?_)⟩
    · rw [← ht v hv s hs]
      refine qG_mono (fun c' hc' => ?_)
      unfold tset
      split
      · next q => rw [q]; exact ge c hc
      · exact Nat.le_refl _
    · rw [← hg v hv s hs]
      refine qG_mono (fun c' hc' => ?_)
      unfold tset
      split
      · next q => rw [q]; exact Nat.le_refl _
      · exact ge c' hc'
def qNx (pl : qP) (f g t : Nat → Nat) : Nat := qFst (fun c => decide (¬ t c = g c) && qAlk pl f (tset t c (g c))) (qc pl)
def qTk (pl : qP) (f g : Nat → Nat) : Nat → Nat → Nat
  | 0 => f
  | k + 1 => tset (qTk pl f g k) (qNx pl f g (qTk pl f g k)) (g (qNx pl f g (qTk pl f g k)))
def qUn (f g : Nat → Nat) (n : Nat) : Nat := fb_ct (fun c => decide (¬ f c = g c)) n
def qOc (pl : qP) (f g : Nat → Nat) (n k : Nat) : Nat := if k < n then qNx pl f g (qTk pl f g k) else 0
def sOrder (z : qZ) (a : Int32) : qZ × Int32 :=
  if qin a 4 then (if (zTr z a.toNatClampNeg).1 then (if qRs (zTr z a.toNatClampNeg) (qc (zP z)) = 0 then
    (if qUn (zT z) (qtH (zTr z a.toNatClampNeg)) (qc (zP z)) ≤ 12 then (if qAlk (zP z) (zT z) (qtH (zTr z a.toNatClampNeg)) then (uSt (uOr z (qUn (zT z) (qtH (zTr z a.toNatClampNeg)) (qc (zP z)), qOc (zP z) (zT z) (qtH (zTr z a.toNatClampNeg)) (qUn (zT z) (qtH (zTr z a.toNatClampNeg)) (qc (zP z))))) 0, nI (qUn (zT z) (qtH (zTr z a.toNatClampNeg)) (qc (zP z)))) else rf z 9) else rf z 7)
    else rf z (nI (qRs (zTr z a.toNatClampNeg) (qc (zP z))))) else rf z 3) else rf z 1
theorem qNx_ok {pl : qP} {f g t : Nat → Nat} (h : qNx pl f g t < qc pl) : (¬ t (qNx pl f g t) = g (qNx pl f g t)) ∧ qAlk pl f (tset t (qNx pl f g t) (g (qNx pl f g t))) = true := by
  have := (qFst_yes h).1
  rw [Bool.and_eq_true, decide_eq_true_iff] at this
  exact this
theorem qUn_step {f g : Nat → Nat} {c n : Nat} (hc : c < n) (h : ¬ f c = g c) : qUn (tset f c (g c)) g n + 1 = qUn f g n := by
  have e := fb_ct_upd (fun k => decide (¬ f k = g k)) false (i := c) (n := n) hc
  have e2 : fb_ct (fun k => if k = c then false else decide (¬ f k = g k)) n = qUn (tset f c (g c)) g n := fb_ct_cong (fun k _ => by
    unfold tset
    by_cases q : k = c
    · rw [if_pos q, if_pos q, q]; exact (decide_eq_false (fun n => n rfl)).symm
    · rw [if_neg q, if_neg q])
  have e3 : (if (decide (¬ f c = g c)) = true then 1 else 0) = 1 := if_pos (decide_eq_true h)
  rw [e2, e3] at e
  have e4 : qUn (tset f c (g c)) g n + 1 = qUn f g n + 0 := e
  omega
theorem qUn_pos {f g : Nat → Nat} {n : Nat} : 0 < qUn f g n ↔ ∃ c, c < n ∧ ¬ f c = g c := by
  unfold qUn
  rw [fb_ct_pos]
  exact ⟨fun ⟨k, h1, h2⟩ => ⟨k, h1, of_decide_eq_true h2⟩, fun ⟨k, h1, h2⟩ => ⟨k, h1, decide_eq_true h2⟩⟩
/-- how it goes on -/
theorem order_run {pl : qP} {f g : Nat → Nat} (hg : qAlk pl f g = true) : ∀ k, k ≤ qUn f g (qc pl) → qAlk pl f (qTk pl f g k) = true ∧ qUn (qTk pl f g k) g (qc pl) + k = qUn f g (qc pl) ∧ (∀ c, qTk pl f g k c = f c ∨ qTk pl f g k c = g c) ∧ (k < qUn f g (qc pl) → qNx pl f g (qTk pl f g k) < qc pl)
  | 0, _ => by
    refine ⟨qAlk_self, rfl, fun c => Or.inl rfl, fun h => ?_⟩
    obtain ⟨c, h1, h2, h3⟩ := order_prog hg (t := f) qAlk_self (qUn_pos.mp h)
    refine qFst_lt.mpr ⟨c, h1, ?_⟩
    show (decide (¬ f c = g c) && qAlk pl f (tset f c (g c))) = true
    rw [decide_eq_true h2, h3]; rfl
  | k + 1, hk => by
    obtain ⟨a1, a2, a3, a4⟩ := order_run hg k (by omega)
    have lt := a4 (by omega)
    obtain ⟨b1, b2⟩ := qNx_ok lt
    have un := qUn_step lt b1
    have a1' : qAlk pl f (qTk pl f g (k + 1)) = true := b2
    have a2' : qUn (qTk pl f g (k + 1)) g (qc pl) + (k + 1) = qUn f g (qc pl) := by
      show qUn (tset _ _ _) g (qc pl) + (k + 1) = _
      omega
    refine ⟨a1', a2', fun c => ?_, fun h => ?_⟩
    · show tset _ _ _ c = f c ∨ tset _ _ _ c = g c
      unfold tset
      by_cases q : c = qNx pl f g (qTk pl f g k)
      · rw [if_pos q, q]; exact Or.inr rfl
      · rw [if_neg q]; exact a3 c
    · obtain ⟨c, h1, h2, h3⟩ := order_prog hg a1' (qUn_pos.mp (show 0 < qUn (qTk pl f g (k + 1)) g (qc pl) by omega))
      exact qFst_lt.mpr ⟨c, h1, by rw [decide_eq_true h2, h3]; rfl⟩
theorem qTk_le {pl : qP} {f g : Nat → Nat} (hf : ∀ c, f c ≤ 99) (hg : ∀ c, g c ≤ 99) : ∀ k c, qTk pl f g k c ≤ 99
  | 0, c => hf c
  | k + 1, c => tset_le (fun c => qTk_le hf hg k c) (hg _) c
theorem cI.setOr {M M' : jM} {z : qZ} {n : Nat} {f : Nat → Nat} (h : cI M z) (hs : jsame (fun q => q = 62 ∨ q = 65) M M') (h3 : M'.1 62 3 = nI n) (hn : n ≤ 12) (hf : ∀ k, k < n → M'.1 65 k = nI (f k)) (hb : ∀ k, f k < 25) : cI M' (uOr z (n, f)) := by
  obtain ⟨a1, a2, a3, a4, a5, a6, a7, a8, a9, a10, a11, a12, a13, a14, a15, a16⟩ := h
  have r : ∀ q, ¬ (q = 62 ∨ q = 65) → M'.1 q = M.1 q ∧ M'.2 q = M.2 q := hs
  have ok : zOk z := a16
  obtain ⟨k1, k2, k3, k4, k5, k6, k7⟩ := id a16
  refine ⟨by rw [(r 0 (by omega)).1]; exact a1, by rw [(r 75 (by omega)).2]; exact a2, by rw [(r 75 (by omega)).2]; exact a3, fun t ht => (a4 t ht).keep (r _ (by omega)).1 (r _ (by omega)).2, by rw [(r 0 (by omega)).1]; exact a5, fun k hk => by rw [(r 2 (by omega)).1]; exact a6 k hk, by rw [(r 76 (by omega)).1]; exact a7, by rw [(r 76 (by omega)).1]; exact a8, a9.keep (fun q q1 q2 q3 => (r q (by omega)).1) (r _ (by omega)).2, by rw [(r 0 (by omega)).1]; exact a10, fun m hm => (a11 m hm).keep (fun q q1 q2 q3 => (r q (by omega)).1) (r _ (by omega)).2, h3, hf, fun k hk => by rw [(r 74 (by omega)).1]; exact a14 k hk, fun k hk => by rw [(r 14 (by omega)).2, (r 26 (by omega)).2]; exact a15 k hk, ⟨k1, k2, k3, k4, k5, hn, hb⟩⟩
section ORD
variable {x : jX} {d : Nat} {M : jM} {z : qZ}
theorem k_cellsUnlike {P : jM → Int32 → Prop} {f g : Nat → Nat} {pl : qP} (hp : cPl M 30 pl) (hf : ∀ c, c < qc pl → M.1 63 c = nI (f c)) (bf : ∀ c, f c ≤ 99) (hg : ∀ c, c < qc pl → M.1 64 c = nI (g c)) (bg : ∀ c, g c ≤ 99) (h : P M (nI (qUn f g (qc pl)))) : JC x jtbC mX0_cellsUnlike d [.ref (x.2.2.2 62), .ref (x.2.2.2 30)] M (jI P) := by
  have h25 := hp.wf.c25
  refine b_X0_cellsUnlike ?_
  refine jloop (fun i (s : Int32) => JW x jtbC mX0_cellsUnlike d (jI P) 4 [(0, .ref (x.2.2.2 62)), (1, .ref (x.2.2.2 30)), (2, .int s), (3, .int (nI i))] [] M) (fun i s => s = nI (qUn f g i)) (qc pl) ?_ ?_ 0 0 (Nat.zero_le _) rfl
  · rintro _ rfl
    refine b_X0_cellsUnlike_4 ?_
    rw [hp.c]
    exact pk_le (qc pl) (qc pl) (fun _ => h) (fun c => absurd c (by omega))
  · rintro i _ hi rfl ih
    refine b_X0_cellsUnlike_4 ?_
    rw [hp.c]
    refine pk_le (qc pl) i (fun c => absurd c (by omega)) (fun _ => ⟨i, by omega, rfl, ?_⟩)
    have b1 := bf i
    have b2 := bg i
    rw [hf i hi, hg i hi, nI_eq (by omega) (by omega), nI_1]
    refine ⟨fun c => ih _ ?_, fun c => ih _ ?_⟩
    · show _ + nI 0 = nI (fb_ct _ i + (if decide (¬ f i = g i) = true then 1 else 0))
      rw [if_neg (by rw [decide_eq_true_iff]; exact fun n => n c), nI_add]; rfl
    · show nI (qUn f g i) + 1 = nI (fb_ct _ i + (if decide (¬ f i = g i) = true then 1 else 0))
      rw [if_pos (by rw [decide_eq_true_iff]; exact c), nI_1]; rfl
theorem k_looksAlike {P : jM → Bool → Prop} {f g : Nat → Nat} {pl : qP} (hp : cPl M 30 pl) (hf : ∀ c, c < qc pl → M.1 63 c = nI (f c)) (bf : ∀ c, f c ≤ 99) (hg : ∀ c, c < qc pl → M.1 64 c = nI (g c)) (bg : ∀ c, g c ≤ 99) (h : ∀ M', jsame (fun q => q = 66 ∨ q = 67) M M' → M'.2 = M.2 → P M' (qAlk pl f g)) : JC x jtbC mX0_looksAlike (d + 4) [.ref (x.2.2.2 62), .ref (x.2.2.2 30)] M (jZ P) := by
  have w := hp.wf
  have h6 := w.2.2.2.1
  refine b_X0_looksAlike ?_
  refine jloop (fun i (M' : jM) => JW x jtbC mX0_looksAlike (d + 4) (jZ P) 2 [(0, .ref (x.2.2.2 62)), (1, .ref (x.2.2.2 30)), (2, .int (nI i))] [] M') (fun i M' => jsame (fun q => q = 66 ∨ q = 67) M M' ∧ M'.2 = M.2 ∧ ∀ v, v < i → ∀ s, s < qSt pl v → qG (qw pl) (qh pl) (qSide pl v) s g (qc pl) = qG (qw pl) (qh pl) (qSide pl v) s f (qc pl)) (qn pl) ?_ ?_ 0 M (Nat.zero_le _) ⟨jsame.rf, rfl, fun v hv => absurd hv (Nat.not_lt_zero _)⟩
  · rintro M' ⟨g1, g2, g3⟩
    refine b_X0_looksAlike_2 ?_
    rw [(g1 30 (by omega)).1, hp.n]
    refine pk_le (qn pl) (qn pl) (fun _ => ?_) (fun c => absurd c (by omega))
    have := h M' g1 g2
    rw [qAlk_iff.mpr g3] at this
    exact this
  · rintro i M' hi ⟨g1, g2, g3⟩ ih
    have hp1 : cPl M' 30 pl := hp.keep (fun q q1 q2 => (g1 q (by omega)).1) (by rw [g2])
    refine b_X0_looksAlike_2 ?_
    rw [hp1.n]
    refine pk_le (qn pl) i (fun c => absurd c (by omega)) (fun _ => k_firstApart (f := f) (g := g) hp1 hi (fun c hc => by rw [(g1 63 (by omega)).1]; exact hf c hc) bf (fun c hc => by rw [(g1 64 (by omega)).1]; exact hg c hc) bg (fun M2 k1 k2 => ?_))
    have hle : qAp pl f g i ≤ qSt pl i := qFst_le _ _
    have h9 := qSt_le w i
    have sm := g1.tr k1
    have two := qAp_ne (n := qAp pl f g i) (m := qSt pl i) (A := P M2 false) (B := JW x jtbC mX0_looksAlike (d + 4) (jZ P) 2 [(0, .ref (x.2.2.2 62)), (1, .ref (x.2.2.2 30)), (2, .int (nI i + 1))] [] M2) (by omega) (fun q => ?_) (fun q => ?_)
    · exact ⟨two.2, two.1⟩
    · have := h M2 sm (by rw [k2, g2])
      have e : qAlk pl f g = false := by
        apply Bool.eq_false_iff.mpr
        intro c
        obtain ⟨s, s1, s2⟩ := qFst_lt.mp q
        exact of_decide_eq_true s2 (qAlk_iff.mp c i hi s s1).symm
      rw [e] at this
      exact this
    · rw [nI_1]
      refine ih M2 ⟨sm, by rw [k2, g2], fun v hv s hs => ?_⟩
      rcases Nat.lt_or_ge v i with u | u
      · exact g3 v u s hs
      · obtain rfl : v = i := by omega
        apply Classical.byContradiction
        intro n
        exact q (qFst_lt.mpr ⟨s, hs, decide_eq_true (fun e => n e.symm)⟩)
theorem k_changeFirst {P : jM → Int32 → Prop} {f g t : Nat → Nat} {pl : qP} (hp : cPl M 30 pl) (hf : ∀ c, c < qc pl → M.1 63 c = nI (f c)) (bf : ∀ c, f c ≤ 99) (ht : ∀ c, c < qc pl → M.1 64 c = nI (t c)) (bt : ∀ c, t c ≤ 99) (hg : ∀ c, c < qc pl → M.1 69 c = nI (g c)) (bg : ∀ c, g c ≤ 99) (hn : qNx pl f g t < qc pl)
    (h : ∀ M', jsame (fun q => q = 64 ∨ q = 66 ∨ q = 67) M M' → M'.2 = M.2 → (∀ c, c < qc pl → M'.1 64 c = nI (tset t (qNx pl f g t) (g (qNx pl f g t)) c)) → P M' (nI (qNx pl f g t))) : JC x jtbC mX0_changeFirst (d + 5) [.ref (x.2.2.2 62), .ref (x.2.2.2 30)] M (jI P) := by
  have w := hp.wf
  have h25 := w.c25
  have first := qFst_yes hn
  refine b_X0_changeFirst ?_
  refine jloop (fun i (M' : jM) => JW x jtbC mX0_changeFirst (d + 5) (jI P) 2 [(0, .ref (x.2.2.2 62)), (1, .ref (x.2.2.2 30)), (2, .int (nI i))] [] M') (fun i M' => jsame (fun q => q = 64 ∨ q = 66 ∨ q = 67) M M' ∧ M'.2 = M.2 ∧ ∀ c, c < qc pl → M'.1 64 c = nI (t c)) (qNx pl f g t) ?_ ?_ 0 M (Nat.zero_le _) ⟨jsame.rf, rfl, ht⟩
  · rintro M' ⟨g1, g2, g3⟩
    have hp1 : cPl M' 30 pl := hp.keep (fun q q1 q2 => (g1 q (by omega)).1) (by rw [g2])
    obtain ⟨n1, n2⟩ := qNx_ok hn
    have h1 : qFst (fun c => decide (¬ t c = g c) && qAlk pl f (tset t c (g c))) (qc pl) = qNx pl f g t := rfl
    generalize qNx pl f g t = i at *
    refine b_X0_changeFirst_2 ?_
    rw [hp1.c]
    refine pk_le (qc pl) i (fun c => absurd c (by omega)) (fun _ => ⟨i, by omega, rfl, ?_⟩)
    have q1 := bt i
    have q2 := bg i
    rw [g3 i hn, (g1 69 (by omega)).1, hg i hn, nI_eq (by omega) (by omega)]
    refine ⟨fun c => absurd c n1, fun _ => ?_⟩
    intro M2 e2
    have r64 : ∀ c, c < qc pl → M2.1 64 c = nI (tset t i (g i) c) := fun c hc => by
      rw [e2, jrI_s]
      unfold tset
      by_cases q : c = i
      · rw [if_pos q, q, pk_us]
      · rw [if_neg q, pk_un q]; exact g3 c hc
    have s2 : jsame (fun q => q = 64 ∨ q = 66 ∨ q = 67) M M2 := g1.tr (by rw [e2]; exact jsame.I (Or.inl rfl))
    have m2 : M2.2 = M.2 := by rw [e2]; exact g2
    clear e2
    have hp2 : cPl M2 30 pl := hp.keep (fun q q1 q2 => (s2 q (by omega)).1) (by rw [m2])
    refine k_looksAlike (f := f) (g := tset t i (g i)) hp2 (fun c hc => by rw [(s2 63 (by omega)).1]; exact hf c hc) bf r64 (tset_le bt (bg i)) (fun M3 k1 k2 => ?_)
    rw [n2]
    refine ⟨fun c => (by cases c), fun _ => h M3 (s2.tr (k1.mono (fun q hq => Or.inr hq))) (by rw [k2, m2]) (fun c hc => by rw [(k1 64 (by omega)).1]; exact r64 c hc)⟩
  · rintro i M' hi ⟨g1, g2, g3⟩ ih
    have hp1 : cPl M' 30 pl := hp.keep (fun q q1 q2 => (g1 q (by omega)).1) (by rw [g2])
    have hi' : i < qc pl := by omega
    have no := first.2 i hi
    refine b_X0_changeFirst_2 ?_
    rw [hp1.c]
    refine pk_le (qc pl) i (fun c => absurd c (by omega)) (fun _ => ⟨i, by omega, rfl, ?_⟩)
    have q1 := bt i
    have q2 := bg i
    rw [g3 i hi', (g1 69 (by omega)).1, hg i hi', nI_eq (by omega) (by omega), nI_1]
    refine ⟨fun c => ih M' ⟨g1, g2, g3⟩, fun c => ?_⟩
    intro M2 e2
    have r64 : ∀ c, c < qc pl → M2.1 64 c = nI (tset t i (g i) c) := fun c hc => by
      rw [e2, jrI_s]
      unfold tset
      by_cases q : c = i
      · rw [if_pos q, q, pk_us]
      · rw [if_neg q, pk_un q]; exact g3 c hc
    have s2 : jsame (fun q => q = 64 ∨ q = 66 ∨ q = 67) M M2 := g1.tr (by rw [e2]; exact jsame.I (Or.inl rfl))
    have m2 : M2.2 = M.2 := by rw [e2]; exact g2
    clear e2
    have hp2 : cPl M2 30 pl := hp.keep (fun q q1 q2 => (s2 q (by omega)).1) (by rw [m2])
    refine k_looksAlike (f := f) (g := tset t i (g i)) hp2 (fun c hc => by rw [(s2 63 (by omega)).1]; exact hf c hc) bf r64 (tset_le bt (bg i)) (fun M3 k1 k2 => ?_)
    have al : qAlk pl f (tset t i (g i)) = false := by
      rw [decide_eq_true c, Bool.true_and] at no
      exact no
    rw [al]
    refine ⟨fun _ => ?_, fun c => (by cases c)⟩
    intro M4 e4
    refine ih M4 ⟨?_, ?_, fun c hc => ?_⟩
    · rw [e4]; exact (s2.tr (k1.mono (fun q hq => Or.inr hq))).tr (jsame.I (Or.inl rfl))
    · rw [e4]; show M3.2 = M.2; rw [k2, m2]
    · rw [e4, jrI_s]
      by_cases q : c = i
      · rw [q, pk_us]
      · rw [pk_un q, (k1 64 (by omega)).1, r64 c hc]
        unfold tset
        rw [if_neg q]
end ORD
