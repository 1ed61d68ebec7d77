theorem mI.setOr {N N' : jM} {z : qZ} {n : Nat} {f : Nat → Nat} (h : mI N z) (h1 : ∀ q, q ≠ 0 → q ≠ 13 → N'.1 q = N.1 q) (h2 : N'.2 = N.2) (h0 : ∀ k, k ≠ 39 → N'.1 0 k = N.1 0 k) (hc : N'.1 0 39 = nI n) (hn : n ≤ 12) (hf : ∀ k, k < n → N'.1 13 k = nI (f k)) (hb : ∀ k, f k < 25) : mI N' (uOr z (n, f)) := by
  obtain ⟨a1, a2, a3, a4, a5, a6, a7, a8, a9, a10, a11, a12, a13, a14, a15⟩ := h
  obtain ⟨k1, k2, k3, k4, k5, k6, k7⟩ := id a15
  refine ⟨by rw [h0 0 (by omega)]; exact a1, by rw [h2]; exact a2, by rw [h2]; exact a3, fun t ht => (a4 t ht).keep (by rw [h1 2 (by omega) (by omega)]) (by rw [h1 1 (by omega) (by omega)]) (fun _ _ => by rw [h2]), by rw [h0 8 (by omega)]; exact a5, fun k hk => by rw [h1 4 (by omega) (by omega)]; exact a6 k hk, by rw [h0 10 (by omega)]; exact a7, by rw [h0 11 (by omega)]; exact a8, a9.keep k3 (fun k _ => by rw [h1 5 (by omega) (by omega)]) (fun k _ => by rw [h2]), by rw [h0 25 (by omega)]; exact a10, fun m hm => (a11 m hm).keep (k5 m hm) (fun k _ => by rw [h1 5 (by omega) (by omega)]) (fun k _ => by rw [h2]), hc, hf, ?_, ⟨k1, k2, k3, k4, k5, hn, hb⟩⟩
  rw [h0 49 (by omega), h1 16 (by omega) (by omega)]
  exact a14
def sOrd2 (z : qZ) (t : Nat) : qZ × Int32 := if qUn (zT z) (qtH (zTr z t)) (qc (zP z)) ≤ 12 then (if qAlk (zP z) (zT z) (qtH (zTr z t)) then (uOr z (qUn (zT z) (qtH (zTr z t)) (qc (zP z)), qOc (zP z) (zT z) (qtH (zTr z t)) (qUn (zT z) (qtH (zTr z t)) (qc (zP z)))), nI (qUn (zT z) (qtH (zTr z t)) (qc (zP z)))) else rf z 9) else rf z 7
section OR4
variable {x : jX} {d : Nat} {M : jM} {z : qZ}
/-- what the rows of the search hold -/
def mOs (M : jM) (z : qZ) (g D : Nat → Nat) (n : Nat) : Prop := M.1 0 40 = nI n ∧ (∀ i, i < n → M.1 12 i = nI (D i)) ∧ (∀ c, c < qc (zP z) → M.1 14 c = nI (g c)) ∧ (∀ c, c < qc (zP z) → M.1 17 c = nI (zT z c)) ∧ (∀ v s, v < qn (zP z) → s < qSt (zP z) v → M.1 8 (v * 9 + s) = nI (qG (qw (zP z)) (qh (zP z)) (qSide (zP z) v) s (zT z) (qc (zP z))))
theorem mOs.keep {M' : jM} {g D : Nat → Nat} {n : Nat} (h : mOs M z g D n) (h0 : M'.1 0 40 = M.1 0 40) (h1 : ∀ q, q = 8 ∨ q = 12 ∨ q = 14 ∨ q = 17 → M'.1 q = M.1 q) : mOs M' z g D n := by
  unfold mOs
  rw [h0, h1 8 (by omega), h1 12 (by omega), h1 14 (by omega), h1 17 (by omega)]
  exact h
theorem m_order375 {P : jM → Int32 → Prop} {g D : Nat → Nat} {n : Nat} (h : mI M z) (bg : ∀ c, g c ≤ 99) (hn : n ≤ 12) (hD : oD (zP z) (zT z) g D n (qc (zP z))) (hun : qUn (zT z) g (qc (zP z)) = n) (hO : mOs M z g D n) (hal : qAlk (zP z) (zT z) g = true) (hG : ∀ S, S < 2 ^ n → M.1 15 S = jb (qGd (zP z) (zT z) g D n S)) (hP : ∀ M', mI M' (uOr z (n, qOc (zP z) (zT z) g n)) → P M' (nI n)) :
    ∀ M1, M1 = jrI M 0 (upd (M.1 0) 39 (M.1 0 40)) → JW x jtbM mX12_order (d + 4) (jI P) 375 [(0, .ref (x.2.2.2 0)), (5, .int (0 : Int32)), (6, .int (0 : Int32))] [] M1 := by
  intro M1 e1
  have w := h.pl.wf
  have h25 := w.c25
  have p12 : 2 ^ n ≤ 4096 := Nat.pow_le_pow_right (by decide) hn
  have O1 : mOs M1 z g D n := by rw [e1]; exact hO.keep (by rw [jrI_s, pk_un (by omega)]) (fun q hq => jrI_n (by omega))
  have G1 : ∀ S, S < 2 ^ n → M1.1 15 S = jb (qGd (zP z) (zT z) g D n S) := fun S hS => by rw [e1, jrI_n (by omega)]; exact hG S hS
  refine jloop2 (fun k (M3 : jM) (S : Nat) => JW x jtbM mX12_order (d + 4) (jI P) 375 [(0, .ref (x.2.2.2 0)), (5, .int (nI S)), (6, .int (nI k))] [] M3) (fun k M3 S => jsame (fun q => q = 13) M1 M3 ∧ M3.2 = M1.2 ∧ S < 2 ^ n ∧ (∀ c, qTk (zP z) (zT z) g k c = qMx (zT z) g D S n c) ∧ ∀ j, j < k → M3.1 13 j = nI (qOc (zP z) (zT z) g n j)) n ?_ ?_ 0 M1 0 (Nat.zero_le _) ⟨jsame.rf, rfl, Nat.two_pow_pos n, fun c => (mx_zero hD c).symm, fun j hj => absurd hj (Nat.not_lt_zero _)⟩
  · rintro M3 S ⟨g1, g2, _, _, g3⟩
    refine b_X12_order_375 ?_
    rw [(g1 0 (by omega)).1, O1.1]
    refine pk_le n n (fun _ => hP M3 ?_) (fun c => absurd c (by omega))
    refine h.setOr (fun q h1 h2 => ?_) (by rw [g2, e1]; rfl) (fun k hk => ?_) ?_ hn g3 (fun k => ?_)
    · rw [(g1 q h2).1, e1, jrI_n h1]
    · rw [(g1 0 (by omega)).1, e1, jrI_s, pk_un hk]
    · rw [(g1 0 (by omega)).1, e1, jrI_s, pk_us]; exact hO.1
    · exact qOc_lt w hal k n (by omega)
  · rintro k M3 S hk ⟨g1, g2, hS, g4, g3⟩ ih
    have O3 : mOs M3 z g D n := O1.keep (by rw [(g1 0 (by omega)).1]) (fun q hq => (g1 q (by omega)).1)
    have G3 : ∀ S, S < 2 ^ n → M3.1 15 S = jb (qGd (zP z) (zT z) g D n S) := fun S hS => by rw [(g1 15 (by omega)).1]; exact G1 S hS
    have run := order_run hal k (by omega)
    obtain ⟨i0, i1, i2, i3, i4, i5⟩ := next_same hD hal g4 (run.2.2.2 (by omega))
    have or_lt : ∀ i, i < n → S ||| 2 ^ i < 2 ^ n := fun i hi => Nat.or_lt_two_pow hS (Nat.pow_lt_pow_right (by decide) hi)
    refine b_X12_order_375 ?_
    rw [O3.1]
    refine pk_le n k (fun c => absurd c (by omega)) (fun _ => ?_)
    refine jloop (fun i (_ : Unit) => JW x jtbM mX12_order (d + 4) (jI P) 387 [(0, .ref (x.2.2.2 0)), (5, .int (nI S)), (6, .int (nI k)), (7, .int (nI i))] [] M3) (fun _ _ => True) i0 ?_ ?_ 0 () (Nat.zero_le _) trivial
    · rintro _ _
      have l0 := or_lt i0 i1
      refine b_X12_order_387 (b_X12_has ?_)
      rw [nI_testBit _ (by omega) (by omega)]
      refine ⟨fun _ => ⟨fun c => (by cases c), fun _ => ⟨S ||| 2 ^ i0, by omega, by rw [nI_shl1 _ (by omega), fa_or], ?_⟩⟩, fun q => absurd q (by rw [i2]; decide)⟩
      rw [G3 _ l0, i3]
      refine ⟨fun _ => ⟨i0, by omega, rfl, k, by omega, rfl, ?_⟩, fun c => absurd c (by decide)⟩
      intro M4 e4
      rw [nI_shl1 _ (by omega), fa_or, nI_1]
      refine ih M4 (S ||| 2 ^ i0) ⟨?_, by rw [e4]; exact g2, l0, fun c => ?_, fun j hj => ?_⟩
      · rw [e4]; exact g1.tr (jsame.I rfl)
      · rw [mx_step hD i1]
        show tset _ _ _ c = _
        rw [← i5]
        unfold tset
        split
        · rfl
        · exact g4 c
      · rw [e4, jrI_s]
        by_cases q : j = k
        · rw [q, pk_us, O3.2.1 i0 i1, i5]
          unfold qOc
          rw [if_pos (by omega)]
        · rw [pk_un q]; exact g3 j (by omega)
    · rintro i _ hi _ ihi
      have li := or_lt i (by omega)
      refine b_X12_order_387 (b_X12_has ?_)
      rw [nI_testBit _ (by omega) (by omega), nI_1]
      refine ⟨fun q => ⟨fun c => (by cases c), fun _ => ⟨S ||| 2 ^ i, by omega, by rw [nI_shl1 _ (by omega), fa_or], ?_⟩⟩, fun q => ⟨fun _ => ihi () trivial, fun c => (by cases c)⟩⟩
      have bad : qGd (zP z) (zT z) g D n (S ||| 2 ^ i) = false := by
        rcases i4 i hi with u | u
        · exact absurd u q
        · exact u
      rw [G3 _ li, bad]
      exact ⟨fun c => absurd rfl c, fun _ => ihi () trivial⟩
theorem m_order238 {P : jM → Int32 → Prop} {g D : Nat → Nat} {n : Nat} (h : mI M z) (bg : ∀ c, g c ≤ 99) (hn : n ≤ 12) (hD : oD (zP z) (zT z) g D n (qc (zP z))) (hun : qUn (zT z) g (qc (zP z)) = n) (hO : mOs M z g D n) (hP : ∀ M', mI M' (if qAlk (zP z) (zT z) g then (uOr z (n, qOc (zP z) (zT z) g n), nI n) else rf z 9).1 → P M' (if qAlk (zP z) (zT z) g then (uOr z (n, qOc (zP z) (zT z) g n), nI n) else rf z 9).2) :
    JW x jtbM mX12_order (d + 4) (jI P) 238 [(0, .ref (x.2.2.2 0)), (4, .int (nI (2 ^ n - 1))), (5, .int (nI (2 ^ n - 1)))] [] M := by
  have p12 : 2 ^ n ≤ 4096 := Nat.pow_le_pow_right (by decide) hn
  have p1 : 1 ≤ 2 ^ n := Nat.one_le_two_pow
  have main : ∀ k M3, k ≤ 2 ^ n → mI M3 z → mOs M3 z g D n → (∀ S, k ≤ S → S < 2 ^ n → M3.1 15 S = jb (qGd (zP z) (zT z) g D n S)) → JW x jtbM mX12_order (d + 4) (jI P) 238 [(0, .ref (x.2.2.2 0)), (4, .int (nI (2 ^ n - 1))), (5, .int (nI k - 1))] [] M3 := by
    intro k
    induction k with
    | zero =>
      intro M3 _ g1 g2 g3
      refine b_X12_order_238 ⟨fun _ => ?_, fun c => absurd (by decide) c⟩
      have z0 : qGd (zP z) (zT z) g D n 0 = qAlk (zP z) (zT z) g := by
        unfold qGd
        rw [qAlk_cong (t := qMx (zT z) g D 0 n) (t' := zT z) (fun c _ => mx_zero hD c), qAlk_self, Bool.and_true]
      rw [g3 0 (Nat.zero_le _) p1, z0, jb_0]
      refine ⟨fun c => ?_, fun c => ?_⟩
      · have al : qAlk (zP z) (zT z) g = true := by revert c; cases qAlk (zP z) (zT z) g <;> simp
        rw [al] at hP
        exact m_order375 g1 bg hn hD hun g2 al (fun S hS => g3 S (Nat.zero_le _) hS) hP
      · rw [c] at hP
        exact m_refuse g1 hP
    | succ k ih =>
      intro M3 hk g1 g2 g3
      rw [show nI (k + 1) - 1 = nI k from nI_pred k]
      have put : ∀ (M4 : jM) (b : Bool), mI M4 z → mOs M4 z g D n → (∀ S, k + 1 ≤ S → S < 2 ^ n → M4.1 15 S = jb (qGd (zP z) (zT z) g D n S)) → b = qGd (zP z) (zT z) g D n k → ∀ M5, M5 = jrI M4 15 (upd (M4.1 15) k (jb b)) → JW x jtbM mX12_order (d + 4) (jI P) 238 [(0, .ref (x.2.2.2 0)), (4, .int (nI (2 ^ n - 1))), (5, .int (nI k + (-1)))] [] M5 := fun M4 b a1 a2 a3 hb M5 e5 => by
        rw [show nI k + (-1) = nI k - 1 by rw [Int32.sub_eq_add_neg]]
        refine ih M5 (by omega) ?_ ?_ (fun S h1 h2 => ?_)
        · rw [e5]; exact a1.keep (mSame.row ((jsame.I (S := fun q => q = 15) rfl).mono (fun q hq => by unfold mScr; omega)))
        · rw [e5]; exact a2.keep (by rw [jrI_n (by omega)]) (fun q hq => jrI_n (by omega))
        · rw [e5, jrI_s]
          by_cases q : S = k
          · rw [q, pk_us, hb]
          · rw [pk_un q]; exact a3 S (by omega) h2
      have gs := good_step hD (S := k) (by omega)
      have inner : ∀ b : Bool, (b = true ↔ k = 2 ^ n - 1) → JW x jtbM mX12_order (d + 4) (jI P) 260 [(0, .ref (x.2.2.2 0)), (4, .int (nI (2 ^ n - 1))), (5, .int (nI k)), (6, .int (jb b)), (7, .int (0 : Int32))] [] M3 := fun b hb => by
        refine jloop (fun i (b : Bool) => JW x jtbM mX12_order (d + 4) (jI P) 260 [(0, .ref (x.2.2.2 0)), (4, .int (nI (2 ^ n - 1))), (5, .int (nI k)), (6, .int (jb b)), (7, .int (nI i))] [] M3) (fun i b => b = true ↔ (k = 2 ^ n - 1 ∨ ∃ j, j < i ∧ k.testBit j = false ∧ qGd (zP z) (zT z) g D n (k ||| 2 ^ j) = true)) n ?_ ?_ 0 b (Nat.zero_le _) (hb.trans ⟨Or.inl, fun q => q.elim id (fun ⟨j, hj, _⟩ => absurd hj (Nat.not_lt_zero _))⟩)
        · rintro b1 hb1
          refine b_X12_order_260 ?_
          rw [g2.1]
          refine pk_le n n (fun _ => ?_) (fun c => absurd c (by omega))
          rw [jb_0]
          refine ⟨fun c => ⟨k, by omega, rfl, put M3 false g1 g2 g3 ?_⟩, fun c => ?_⟩
          · symm
            apply Bool.eq_false_iff.mpr
            intro e
            have := hb1.mpr (gs.mpr e).1
            rw [c] at this
            cases this
          · have bt : b1 = true := by revert c; cases b1 <;> simp
            refine m_isAsSeen g1 hn (by omega) hD g2.1 g2.2.1 g2.2.2.1 bg g2.2.2.2.1 g2.2.2.2.2 (fun M4 k1 k2 k3 => ?_)
            have O4 : mOs M4 z g D n := g2.keep (by rw [(k2 0 (by omega)).1]) (fun q hq => (k2 q (by omega)).1)
            have G4 : ∀ S, k + 1 ≤ S → S < 2 ^ n → M4.1 15 S = jb (qGd (zP z) (zT z) g D n S) := fun S h1 h2 => by rw [(k2 15 (by omega)).1]; exact g3 S h1 h2
            have same : qAlk (zP z) (zT z) (qMx (zT z) g D k n) = qGd (zP z) (zT z) g D n k := Bool.eq_iff_iff.mpr ⟨fun e => gs.mp ⟨hb1.mp bt, e⟩, fun e => (gs.mpr e).2⟩
            exact ⟨fun q => ⟨k, by omega, rfl, put M4 false k1 O4 G4 (by rw [← same, q])⟩, fun q => ⟨k, by omega, rfl, put M4 true k1 O4 G4 (by rw [← same, q])⟩⟩
        · rintro i b1 hi hb1 ihi
          have li : k ||| 2 ^ i < 2 ^ n := Nat.or_lt_two_pow (by omega) (Nat.pow_lt_pow_right (by decide) hi)
          refine b_X12_order_260 ?_
          rw [g2.1]
          refine pk_le n i (fun c => absurd c (by omega)) (fun _ => ?_)
          rw [jb_0, nI_1]
          have ext : (b1 = true → (k = 2 ^ n - 1 ∨ ∃ j, j < i + 1 ∧ k.testBit j = false ∧ qGd (zP z) (zT z) g D n (k ||| 2 ^ j) = true)) := fun e => by
            rcases hb1.mp e with u | ⟨j, j1, j2⟩
            · exact Or.inl u
            · exact Or.inr ⟨j, by omega, j2⟩
          have stay : b1 = false → ¬ (k.testBit i = false ∧ qGd (zP z) (zT z) g D n (k ||| 2 ^ i) = true) → (false = true ↔ (k = 2 ^ n - 1 ∨ ∃ j, j < i + 1 ∧ k.testBit j = false ∧ qGd (zP z) (zT z) g D n (k ||| 2 ^ j) = true)) := fun e no => by
            refine ⟨fun c => (by cases c), fun c => ?_⟩
            have : b1 = true := hb1.mpr (by
              rcases c with u | ⟨j, j1, j2⟩
              · exact Or.inl u
              · refine Or.inr ⟨j, ?_, j2⟩
                rcases Nat.lt_or_ge j i with v | v
                · exact v
                · obtain rfl : j = i := by omega
                  exact absurd j2 no)
            rw [e] at this
            cases this
          refine ⟨fun c => ihi true ⟨fun _ => ext (by revert c; cases b1 <;> simp), fun _ => rfl⟩, fun c => ?_⟩
          refine b_X12_has ?_
          rw [nI_testBit _ (by omega) (by omega)]
          refine ⟨fun q => ⟨fun e => (by cases e), fun _ => ⟨k ||| 2 ^ i, by omega, by rw [nI_shl1 _ (by omega), fa_or], ?_⟩⟩, fun q => ⟨fun _ => ihi false (stay c (fun u => absurd u.1 (by rw [q]; decide))), fun e => (by cases e)⟩⟩
          have gt : k + 1 ≤ k ||| 2 ^ i := by
            have a1 : k ≤ k ||| 2 ^ i := Nat.left_le_or
            have a2 : k ≠ k ||| 2 ^ i := fun e => by
              have := congrArg (fun t => t.testBit i) e
              rw [fb_bit_set, decide_eq_true rfl, Bool.or_true] at this
              exact q this
            omega
          rw [g3 _ gt li, jb_0]
          refine ⟨fun e => ihi false (stay c (fun u => absurd u.2 (by rw [e]; decide))), fun e => ihi true ⟨fun _ => Or.inr ⟨i, by omega, Bool.eq_false_iff.mpr q, ?_⟩, fun _ => rfl⟩⟩
          revert e
          cases qGd (zP z) (zT z) g D n (k ||| 2 ^ i) <;> simp
      refine b_X12_order_238 ⟨fun c => absurd c (nI_pos (by omega)), fun _ => ?_⟩
      rw [nI_eq (by omega) (by omega)]
      exact ⟨fun c => inner false ⟨fun e => (by cases e), fun e => absurd e c⟩, fun c => inner true ⟨fun _ => c, fun _ => rfl⟩⟩
  have := main (2 ^ n) M (Nat.le_refl _) h hO (fun S h1 h2 => absurd h2 (by omega))
  rw [show nI (2 ^ n) - 1 = nI (2 ^ n - 1) by rw [jn1, pk_sub p1]] at this
  exact this
end OR4
