/-! rows of trays: told apart, a tenth village -/
def qrg (m : Int32) (lo hi : Nat) : Bool := decide ((lo : Int) ≤ m.toInt ∧ m.toInt ≤ (hi : Int))
theorem qrg_t {m : Int32} {lo hi : Nat} (h : qrg m lo hi = true) (hh : hi < 2 ^ 31) : ∃ k, lo ≤ k ∧ k ≤ hi ∧ m = nI k ∧ m.toNatClampNeg = k := by
  have h := of_decide_eq_true h
  have e : m = nI m.toInt.toNat := by
    apply Int32.toInt_inj.mp
    rw [nI_toInt (by omega)]
    omega
  exact ⟨m.toInt.toNat, by omega, by omega, e, by rw [e, nI_clamp (by omega), ← e]⟩
theorem qrg_br {m : Int32} {lo hi : Nat} {A B : Prop} (hl : lo < 2 ^ 31) (hh : hi < 2 ^ 31) (h1 : qrg m lo hi = false → A) (h2 : qrg m lo hi = true → B) : (m < nI lo → A) ∧ (¬ m < nI lo → (m ≤ nI hi → B) ∧ (¬ m ≤ nI hi → A)) := by
  unfold qrg at h1 h2
  rw [Int32.lt_iff_toInt_lt, Int32.le_iff_toInt_le, nI_toInt hl, nI_toInt hh]
  refine ⟨fun c => h1 (decide_eq_false (by omega)), fun c => ⟨fun c2 => h2 (decide_eq_true (by omega)), fun c2 => h1 (decide_eq_false (by omega))⟩⟩
def qTold (z : qZ) (a m : Int32) (lo hi e : Nat) : Int32 := if qin a 4 then (if (zTr z a.toNatClampNeg).1 then (if qrg m lo hi then nI (qRs (zTr z a.toNatClampNeg) (m.toNatClampNeg * e)) else 5) else 3) else 1
theorem qTold_0 {z : qZ} {a m : Int32} {lo hi e : Nat} (hh : hi < 2 ^ 31) (h : qTold z a m lo hi e = 0) : ∃ t k, t < 4 ∧ a = nI t ∧ a.toNatClampNeg = t ∧ lo ≤ k ∧ k ≤ hi ∧ m = nI k ∧ m.toNatClampNeg = k ∧ (zTr z t).1 = true ∧ k * e ≤ (zTr z t).2.2.1 ∧ ∀ j, j < k * e → qht ((zTr z t).2.2.2 j) = true := by
  unfold qTold at h
  by_cases q : qin a 4 = true
  · rw [if_pos q] at h
    obtain ⟨t, ht, rfl, e1⟩ := qin_0 q (by omega)
    rw [e1] at h
    by_cases c : (zTr z t).1 = true
    · rw [if_pos c] at h
      by_cases g : qrg m lo hi = true
      · rw [if_pos g] at h
        obtain ⟨k, k1, k2, rfl, e2⟩ := qrg_t g hh
        rw [e2] at h
        have h5 := qRs_le (zTr z t) (k * e)
        have : qRs (zTr z t) (k * e) = 0 := (nI_eq (b := 0) (by omega) (by omega)).mp h
        obtain ⟨r1, r2⟩ := qRs_0 this
        exact ⟨t, k, ht, rfl, e1, k1, k2, rfl, e2, c, r1, r2⟩
      · rw [if_neg g] at h; cases h
    · rw [if_neg c] at h; cases h
  · rw [if_neg q] at h; cases h
theorem qTold_n (z : qZ) (a m : Int32) (lo hi e : Nat) : qTold z a m lo hi e = 0 ∨ ¬ qTold z a m lo hi e ≤ 0 := by
  unfold qTold
  split
  · split
    · split
      · have h5 := qRs_le (zTr z a.toNatClampNeg) (m.toNatClampNeg * e)
        rcases Nat.eq_zero_or_pos (qRs (zTr z a.toNatClampNeg) (m.toNatClampNeg * e)) with q | q
        · rw [q]; exact Or.inl rfl
        · exact Or.inr (nI_nle q (by omega))
      · exact Or.inr (by decide)
    · exact Or.inr (by decide)
  · exact Or.inr (by decide)
def qAp (pl : qP) (f g : Nat → Nat) (v : Nat) : Nat := qFst (fun s => decide (¬ qG (qw pl) (qh pl) (qSide pl v) s f (qc pl) = qG (qw pl) (qh pl) (qSide pl v) s g (qc pl))) (qSt pl v)
def qCs (a b : qT) (m : Nat) : Int32 := if a.1 && b.1 then (if qRs a m = 4 ∨ qRs b m = 4 then 4 else if qRs a m = 0 then nI (qRs b m) else nI (qRs a m)) else 3
def sApart (z : qZ) (a b v : Int32) : qZ × Int32 :=
  if qin a 4 && qin b 4 then (if qin v (qn (zP z)) then
    (if qCs (zTr z a.toNatClampNeg) (zTr z b.toNatClampNeg) (qc (zP z)) = 0 then
      (if qAp (zP z) (qtH (zTr z a.toNatClampNeg)) (qtH (zTr z b.toNatClampNeg)) v.toNatClampNeg < qSt (zP z) v.toNatClampNeg then an z (nI (qAp (zP z) (qtH (zTr z a.toNatClampNeg)) (qtH (zTr z b.toNatClampNeg)) v.toNatClampNeg)) else rf z 8)
    else rf z (qCs (zTr z a.toNatClampNeg) (zTr z b.toNatClampNeg) (qc (zP z)))) else rf z 2) else rf z 1
theorem qRs_5 {t : qT} {m : Nat} (h4 : ¬ qRs t m = 4) : qRs t m = 0 ∨ qRs t m = 5 := by
  unfold qRs at h4 ⊢
  split
  · next q => rw [if_pos q] at h4; exact absurd rfl h4
  · split
    · exact Or.inr rfl
    · exact Or.inl rfl
section APT
variable {x : jX} {d : Nat} {M : jM} {z : qZ}
theorem k_told {P : jM → Int32 → Prop} {a m : Int32} {lo hi e : Nat} (hl : lo < 2 ^ 31) (hh : hi ≤ 9) (he : e ≤ 25) (h : cI M z) (hP : P M (qTold z a m lo hi e)) : JC x jtbC mX11_toldStatus (d + 2) [.ref (x.2.2.2 0), .int a, .int m, .int (nI lo), .int (nI hi), .int (nI e)] M (jI P) := by
  unfold qTold at hP
  refine b_X11_toldStatus (k_isTray ⟨fun q => ?_, fun q => ?_⟩)
  · rw [if_pos q] at hP
    obtain ⟨t, ht, rfl, e1⟩ := qin_0 q (by omega)
    rw [e1] at hP
    have tr := h.tr ht
    refine ⟨t, ht, rfl, ?_⟩
    rw [tr.1, jb_0]
    refine ⟨fun c => ?_, fun c => by rw [c] at hP; exact hP⟩
    have c' : (zTr z t).1 = true := by revert c; cases (zTr z t).1 <;> simp
    rw [if_pos c'] at hP
    refine qrg_br hl (by omega) (fun g => by rw [g] at hP; exact hP) (fun g => ?_)
    rw [if_pos g] at hP
    obtain ⟨k, k1, k2, rfl, e2⟩ := qrg_t g (by omega)
    rw [e2] at hP
    rw [pk_mul]
    have : k * e ≤ 9 * 25 := Nat.mul_le_mul (by omega) he
    exact k_rowStatus (by omega) (at9 ht) tr hP
  · rw [q] at hP; exact hP
theorem k_firstApart {P : jM → Int32 → Prop} {v : Nat} {f g : Nat → Nat} {pl : qP} (hp : cPl M 30 pl) (hv : v < qn pl) (hf : ∀ c, c < qc pl → M.1 63 c = nI (f c)) (bf : ∀ c, f c ≤ 99) (hg : ∀ c, c < qc pl → M.1 64 c = nI (g c)) (bg : ∀ c, g c ≤ 99)
    (hP : ∀ M', jsame (fun q => q = 66 ∨ q = 67) M M' → M'.2 = M.2 → P M' (if qAp pl f g v < qSt pl v then nI (qAp pl f g v) else -1)) : JC x jtbC mX0_firstStripApart (d + 3) [.ref (x.2.2.2 62), .ref (x.2.2.2 30), .int (nI v)] M (jI P) := by
  have w := hp.wf
  have h25 := w.c25
  have h6 := w.2.2.2.1
  have s8 := w.2.2.2.2.2.2.2.2.2.1 v
  have h9 := qSt_le w v
  have h9' : qS (qw pl) (qh pl) (qSide pl v) ≤ 9 := h9
  obtain ⟨w1, w2, w3⟩ := qn_pos w hv
  refine b_X0_firstStripApart ⟨v, by omega, rfl, ?_⟩
  rw [show M.1 35 v = _ from hp.side hv]
  refine k_lookFrom (a := 0) atC5_30 hp sC_63 (by decide) sC_66 (by decide) h25 hf bf s8 (by omega) (by omega) (by omega) w3 (fun M1 g1 g2 _ g4 => ?_)
  have hp1 : cPl M1 30 pl := hp.keep (fun q q1 q2 => (g1 q (by omega)).1) (by rw [g4])
  rw [show M1.1 35 v = _ from hp1.side hv]
  refine k_lookFrom (a := 0) atC5_30 hp1 sC_64 (by decide) sC_67 (by decide) h25 (fun c hc => by rw [(g1 64 (by omega)).1]; exact hg c hc) bg s8 (by omega) (by omega) (by omega) w3 (fun M2 k1 k2 _ k4 => ?_)
  have hp2 : cPl M2 30 pl := hp1.keep (fun q q1 q2 => (k1 q (by omega)).1) (by rw [k4])
  have sm : jsame (fun q => q = 66 ∨ q = 67) M M2 := (g1.mono (fun q hq => Or.inl hq)).tr (k1.mono (fun q hq => Or.inr hq))
  have rows : ∀ s, s < qSt pl v → (M2.1 66 s = M2.1 67 s ↔ qG (qw pl) (qh pl) (qSide pl v) s f (qc pl) = qG (qw pl) (qh pl) (qSide pl v) s g (qc pl)) := fun s hs => by
    have a1 := g2 s hs
    have a2 := k2 s hs
    rw [Nat.zero_add] at a1 a2
    have q1 := qG_le (w := qw pl) (h := qh pl) (side := qSide pl v) (s := s) bf (qc pl)
    have q2 := qG_le (w := qw pl) (h := qh pl) (side := qSide pl v) (s := s) bg (qc pl)
    rw [(k1 66 (by omega)).1, a1, a2, nI_eq (by omega) (by omega)]
  have hP2 := hP M2 sm (by rw [k4, g4])
  refine jloop (fun i (_ : Unit) => JW x jtbC mX0_firstStripApart (d + 3) (jI P) 40 [(0, .ref (x.2.2.2 62)), (1, .ref (x.2.2.2 30)), (2, .int (nI v)), (3, .int (nI i))] [] M2) (fun i _ => ∀ j, j < i → decide (¬ qG (qw pl) (qh pl) (qSide pl v) j f (qc pl) = qG (qw pl) (qh pl) (qSide pl v) j g (qc pl)) = false) (qSt pl v) ?_ ?_ 0 () (Nat.zero_le _) (fun j hj => absurd hj (Nat.not_lt_zero _))
  · rintro _ hI
    refine b_X0_firstStripApart_40 (k_stripsOf atC5_30 hp2 hv (pk_le (qSt pl v) (qSt pl v) (fun _ => ?_) (fun c => absurd c (by omega))))
    have : qAp pl f g v = qSt pl v := qFst_no hI
    rw [this, if_neg (by omega)] at hP2
    exact hP2
  · rintro i _ hi hI ih
    refine b_X0_firstStripApart_40 (k_stripsOf atC5_30 hp2 hv (pk_le (qSt pl v) i (fun c => absurd c (by omega)) (fun _ => ⟨i, by omega, rfl, ?_⟩)))
    rw [rows i hi, nI_1]
    refine ⟨fun c => ih () (fun j hj => ?_), fun c => ?_⟩
    · rcases Nat.lt_or_ge j i with q | q
      · exact hI j q
      · obtain rfl : j = i := by omega
        exact decide_eq_false (fun n => n c)
    · have : qAp pl f g v = i := qFst_at hI (decide_eq_true c) hi
      rw [this, if_pos hi] at hP2
      exact hP2
theorem qAp_ne {n : Nat} (h : n < 2 ^ 31) {A B : Prop} {m : Nat} (h1 : n < m → A) (h2 : ¬ n < m → B) : (¬ (if n < m then nI n else -1) = (-1 : Int32) → A) ∧ ((if n < m then nI n else -1) = (-1 : Int32) → B) := by
  by_cases q : n < m
  · rw [if_pos q]
    exact ⟨fun _ => h1 q, fun c => absurd c (nI_ne1 h)⟩
  · rw [if_neg q]
    exact ⟨fun c => absurd rfl c, fun _ => h2 q⟩
theorem o_apart {P : jM → Int32 → Prop} {a b v : Int32} (h : cI M z) (hP : ∀ M', cI M' (sApart z a b v).1 → P M' (sApart z a b v).2) : JC x jtbC mX11_apart (d + 4) [.ref (x.2.2.2 0), .int a, .int b, .int v] M (jI P) := by
  unfold sApart at hP
  have h25 := h.pl.wf.c25
  have h6 := h.pl.wf.2.2.2.1
  refine b_X11_apart (k_isTray ⟨fun q => ?_, fun q => k_isTray ⟨fun q2 => ?_, fun q2 => ?_⟩⟩)
  · rw [q, Bool.false_and] at hP
    exact c_refused h hP
  · rw [q, q2, if_pos (by rfl)] at hP
    obtain ⟨s, hs, rfl, e1⟩ := qin_0 q (by omega)
    obtain ⟨t, ht, rfl, e2⟩ := qin_0 q2 (by omega)
    rw [e1, e2] at hP
    refine k_hasVillage atC5_30 h.pl ⟨fun c => ?_, fun c => ?_⟩
    · rw [if_pos c] at hP
      obtain ⟨j, hj, rfl, e3⟩ := qin_0 c (by omega)
      rw [e3] at hP
      refine ⟨s, hs, rfl, t, ht, rfl, ?_⟩
      have t1 := h.tr hs
      have t2 := h.tr ht
      have fin : ∀ r : Int32, qCs (zTr z s) (zTr z t) (qc (zP z)) = r → ¬ r = 0 → JC x jtbC mX11_refused (d + 3) [.ref (x.2.2.2 0), .int r] M (jI fun M11 r6 => P M11 r6) := fun r e ne => by
        rw [if_neg (by rw [e]; exact ne), e] at hP
        exact c_refused h hP
      have unf : ∀ r : Int32, qCs (zTr z s) (zTr z t) (qc (zP z)) = r → ¬ r = 0 → (r = 0 → JC x jtbC mX9_copyHeights (d + 3) [.ref (x.2.2.2 (77 + 2 * s)), .int (0 : Int32), .int (M.1 30 2), .ref (x.2.2.2 63), .int (0 : Int32)] M (jV fun M6 => JC x jtbC mX9_copyHeights (d + 3) [.ref (x.2.2.2 (77 + 2 * t)), .int (0 : Int32), .int (M6.1 30 2), .ref (x.2.2.2 64), .int (0 : Int32)] M6 (jV fun M7 => JC x jtbC mX0_firstStripApart (d + 3) [.ref (x.2.2.2 62), .ref (x.2.2.2 30), .int (nI j)] M7 (jI fun M8 r3 => (¬ r3 = (-1 : Int32) → JC x jtbC mX11_answered (d + 3) [.ref (x.2.2.2 0), .int r3] M8 (jI fun M9 r4 => P M9 r4)) ∧ (r3 = (-1 : Int32) → JC x jtbC mX11_refused (d + 3) [.ref (x.2.2.2 0), .int (8 : Int32)] M8 (jI fun M10 r5 => P M10 r5)))))) ∧ (¬ r = 0 → JC x jtbC mX11_refused (d + 3) [.ref (x.2.2.2 0), .int r] M (jI fun M11 r6 => P M11 r6)) := fun r e ne => ⟨fun c => absurd c ne, fun _ => fin r e ne⟩
      have good : qCs (zTr z s) (zTr z t) (qc (zP z)) = 0 → qc (zP z) ≤ (zTr z s).2.2.1 ∧ qc (zP z) ≤ (zTr z t).2.2.1 ∧ (∀ k, k < qc (zP z) → qht ((zTr z s).2.2.2 k) = true) ∧ (∀ k, k < qc (zP z) → qht ((zTr z t).2.2.2 k) = true) := fun e => by
        unfold qCs at e
        split at e
        · split at e
          · cases e
          · next n4 =>
            split at e
            · next z1 =>
              have := qRs_le (zTr z t) (qc (zP z))
              have z2 : qRs (zTr z t) (qc (zP z)) = 0 := (nI_eq (b := 0) (by omega) (by omega)).mp e
              have r1 := qRs_0 z1
              have r2 := qRs_0 z2
              exact ⟨r1.1, r2.1, r1.2, r2.2⟩
            · next z1 =>
              have := qRs_le (zTr z s) (qc (zP z))
              exact absurd ((nI_eq (b := 0) (by omega) (by omega)).mp e) z1
        · cases e
      have go : qCs (zTr z s) (zTr z t) (qc (zP z)) = 0 → JC x jtbC mX9_copyHeights (d + 3) [.ref (x.2.2.2 (77 + 2 * s)), .int (0 : Int32), .int (M.1 30 2), .ref (x.2.2.2 63), .int (0 : Int32)] M (jV fun M6 => JC x jtbC mX9_copyHeights (d + 3) [.ref (x.2.2.2 (77 + 2 * t)), .int (0 : Int32), .int (M6.1 30 2), .ref (x.2.2.2 64), .int (0 : Int32)] M6 (jV fun M7 => JC x jtbC mX0_firstStripApart (d + 3) [.ref (x.2.2.2 62), .ref (x.2.2.2 30), .int (nI j)] M7 (jI fun M8 r3 => (¬ r3 = (-1 : Int32) → JC x jtbC mX11_answered (d + 3) [.ref (x.2.2.2 0), .int r3] M8 (jI fun M9 r4 => P M9 r4)) ∧ (r3 = (-1 : Int32) → JC x jtbC mX11_refused (d + 3) [.ref (x.2.2.2 0), .int (8 : Int32)] M8 (jI fun M10 r5 => P M10 r5))))) := fun e => by
        obtain ⟨r1, r2, r3, r4⟩ := good e
        rw [if_pos e] at hP
        rw [h.pl.c]
        refine k_copyHeights (from_ := 0) (place := 0) (many := qc (zP z)) (at9 hs) t1 sC_63 (by decide) (by omega) (by omega) (fun k hk => by rw [Nat.zero_add]; exact r3 k hk) (fun M1 g1 g2 g3 _ => ?_)
        have h1 : cI M1 z := h.scr (g1.mono (fun q hq => by unfold cScr; omega))
        rw [h1.pl.c]
        refine k_copyHeights (from_ := 0) (place := 0) (many := qc (zP z)) (at9 ht) (h1.tr ht) sC_64 (by decide) (by omega) (by omega) (fun k hk => by rw [Nat.zero_add]; exact r4 k hk) (fun M2 k1 k2 k3 _ => ?_)
        have h2 : cI M2 z := h1.scr (k1.mono (fun q hq => by unfold cScr; omega))
        refine k_firstApart (f := qtH (zTr z s)) (g := qtH (zTr z t)) h2.pl hj (fun c hc => ?_) (qtH_le _) (fun c hc => ?_) (qtH_le _) (fun M3 m1 m2 => ?_)
        · rw [(k1 63 (by omega)).1]
          have := g3 c hc
          rw [Nat.zero_add] at this
          exact this
        · have := k3 c hc
          rw [Nat.zero_add] at this
          exact this
        · have h3 : cI M3 z := h2.scr (m1.mono (fun q hq => by unfold cScr; omega))
          have h9 := qSt_le h.pl.wf j
          have hle : qAp (zP z) (qtH (zTr z s)) (qtH (zTr z t)) j ≤ qSt (zP z) j := qFst_le _ _
          refine qAp_ne (by omega) (fun w => ?_) (fun w => ?_)
          · rw [if_pos w] at hP ⊢
            exact c_answered h3 hP
          · rw [if_neg w] at hP
            exact c_refused h3 hP
      refine b_X11_coupleStatus (at9 hs) (at9 ht) ?_
      rw [t1.1, t2.1, jb_0, jb_0]
      by_cases c1 : (zTr z s).1 = true
      · by_cases c2 : (zTr z t).1 = true
        · have cs : qCs (zTr z s) (zTr z t) (qc (zP z)) = (if qRs (zTr z s) (qc (zP z)) = 4 ∨ qRs (zTr z t) (qc (zP z)) = 4 then 4 else if qRs (zTr z s) (qc (zP z)) = 0 then nI (qRs (zTr z t) (qc (zP z))) else nI (qRs (zTr z s) (qc (zP z)))) := by
            unfold qCs; rw [c1, c2]; rfl
          refine ⟨fun w => absurd w (by rw [c1]; decide), fun _ => ⟨fun _ => ?_, fun w => absurd w (by rw [c2]; decide)⟩⟩
          rw [h.pl.c]
          have l1 := qRs_le (zTr z s) (qc (zP z))
          have l2 := qRs_le (zTr z t) (qc (zP z))
          refine k_rowStatus (by omega) (at9 hs) t1 (k_rowStatus (by omega) (at9 ht) t2 ?_)
          rw [show (4 : Int32) = nI 4 from rfl, nI_eq (by omega) (by omega), nI_eq (by omega) (by omega)]
          refine ⟨fun w => unf (nI 4) (cs.trans (if_pos (Or.inl w))) (by decide), fun w => ⟨fun w2 => ?_, fun w2 => unf (nI 4) (cs.trans (if_pos (Or.inr w2))) (by decide)⟩⟩
          rw [if_neg (by omega)] at cs
          rw [show (nI (qRs (zTr z s) (qc (zP z))) = (0 : Int32)) = (nI (qRs (zTr z s) (qc (zP z))) = nI 0) from rfl, nI_eq (by omega) (by omega)]
          refine ⟨fun w3 => ?_, fun w3 => ?_⟩
          · rw [if_pos w3] at cs
            rcases qRs_5 w2 with u | u
            · rw [u] at cs ⊢
              exact ⟨fun _ => go cs, fun n => absurd rfl n⟩
            · rw [u] at cs ⊢
              exact unf _ cs (by decide)
          · rw [if_neg w3] at cs
            exact ⟨fun c => absurd c w3, fun _ => fin _ cs (nI_ne0 (by omega) (by omega))⟩
        · have c2' : (zTr z t).1 = false := by revert c2; cases (zTr z t).1 <;> simp
          refine ⟨fun w => absurd w (by rw [c1]; decide), fun _ => ⟨fun w => absurd c2' w, fun _ => unf 3 (by unfold qCs; rw [c2', Bool.and_false]; rfl) (by decide)⟩⟩
      · have c1' : (zTr z s).1 = false := by revert c1; cases (zTr z s).1 <;> simp
        refine ⟨fun _ => unf 3 (by unfold qCs; rw [c1']; rfl) (by decide), fun w => absurd c1' w⟩
    · rw [if_neg (by rw [c]; decide)] at hP
      exact c_refused h hP
  · rw [q2, Bool.and_false] at hP
    exact c_refused h hP
end APT
