/-! the fewest watchers -/
def qSet (p : Nat → Bool) : Nat → Nat
  | 0 => 0
  | k + 1 => qSet p k ||| (if p k then 2 ^ k else 0)
theorem qSet_bit {p : Nat → Bool} (k : Nat) : ∀ n, (qSet p n).testBit k = (decide (k < n) && p k)
  | 0 => by rw [decide_eq_false (Nat.not_lt_zero _)]; exact Nat.zero_testBit k
  | n + 1 => by
    show (qSet p n ||| _).testBit k = _
    rw [Nat.testBit_or, qSet_bit k n]
    by_cases e : k = n
    · subst e
      rw [decide_eq_false (Nat.lt_irrefl _), decide_eq_true (Nat.lt_succ_self _)]
      cases p k
      · simp
      · simp [Nat.testBit_two_pow_self]
    · have : (if p n = true then 2 ^ n else 0).testBit k = false := by
        split
        · rw [Nat.testBit_two_pow]; exact decide_eq_false (fun c => e c.symm)
        · exact Nat.zero_testBit k
      rw [this, Bool.or_false]
      congr 1
      exact decide_eq_decide.mpr (by omega)
theorem qSet_cong {p q : Nat → Bool} : ∀ {n : Nat}, (∀ k, k < n → p k = q k) → qSet p n = qSet q n
  | 0, _ => rfl
  | n + 1, h => by
    show qSet p n ||| _ = qSet q n ||| _
    rw [qSet_cong (fun k hk => h k (by omega)), h n (by omega)]
def qRow (pl : qP) (t : qT) (a : Nat) : Nat → Nat := fun c => qtH t (a * qc pl + c)
theorem qRow_le (pl : qP) (t : qT) (a c : Nat) : qRow pl t a c ≤ 99 := qtH_le _ _
def qTe (pl : qP) (t : qT) (a b v : Nat) : Bool := decide (qAp pl (qRow pl t a) (qRow pl t b) v < qSt pl v)
def qTd (pl : qP) (t : qT) (a b set : Nat) : Bool := decide (qFst (fun v => set.testBit v && qTe pl t a b v) (qn pl) < qn pl)
def qWt (pl : qP) (t : qT) (many set : Nat) : Bool := decide (∀ a, a < many → ∀ b, b < many → a < b → qTd pl t a b set = true)
def sWatchers (z : qZ) (a m : Int32) : qZ × Int32 := if qTold z a m 2 4 (qc (zP z)) = 0 then (match qBest (qWt (zP z) (zTr z a.toNatClampNeg) m.toNatClampNeg) (2 ^ qn (zP z)) with
  | none => rf z 9
  | some b => an z (nI b)) else rf z (qTold z a m 2 4 (qc (zP z)))
def qOr (T : Nat → Nat) (set : Nat) : Nat → Nat
  | 0 => 0
  | v + 1 => qOr T set v ||| (if set.testBit v then T v else 0)
theorem qOr_bit {T : Nat → Nat} {set k : Nat} : ∀ {n : Nat}, (qOr T set n).testBit k = true ↔ ∃ v, v < n ∧ set.testBit v = true ∧ (T v).testBit k = true
  | 0 => ⟨fun h => (by rw [show qOr T set 0 = 0 from rfl, Nat.zero_testBit] at h; cases h), fun ⟨v, hv, _⟩ => absurd hv (Nat.not_lt_zero _)⟩
  | n + 1 => by
    show (qOr T set n ||| _).testBit k = true ↔ _
    rw [Nat.testBit_or, Bool.or_eq_true, qOr_bit]
    constructor
    · rintro (⟨v, h1, h2⟩ | h)
      · exact ⟨v, by omega, h2⟩
      · by_cases e : set.testBit n = true
        · rw [if_pos e] at h; exact ⟨n, by omega, e, h⟩
        · rw [if_neg e, Nat.zero_testBit] at h; cases h
    · rintro ⟨v, h1, h2, h3⟩
      rcases Nat.lt_or_ge v n with u | u
      · exact Or.inl ⟨v, u, h2, h3⟩
      · obtain rfl : v = n := by omega
        rw [if_pos h2]; exact Or.inr h3
def qCn (many : Nat) : Nat → Nat
  | 0 => 0
  | a + 1 => qCn many a + (many - (a + 1))
/-- pairs that have been told when pair (a, b) is next -/
def qHd (many a b a' b' : Nat) : Prop := (a' < a ∨ (a' = a ∧ b' < b)) ∧ a' < b' ∧ b' < many
def qLi (L : Nat → Nat × Nat) (n many a b : Nat) : Prop := (∀ k, k < n → qHd many a b (L k).1 (L k).2) ∧ ∀ a' b', qHd many a b a' b' → ∃ k, k < n ∧ L k = (a', b')
def qTv (pl : qP) (t : qT) (L : Nat → Nat × Nat) (n v : Nat) : Nat := qSet (fun k => qTe pl t (L k).1 (L k).2 v) n
theorem watch_iff {pl : qP} {t : qT} {L : Nat → Nat × Nat} {n many set : Nat} (w : qWf pl) (hs : set < 2 ^ qn pl) (hL : qLi L n many many 0) : qOr (qTv pl t L n) set 6 = 2 ^ n - 1 ↔ qWt pl t many set = true := by
  have h6 := w.2.2.2.1
  have hv : ∀ v, set.testBit v = true → v < qn pl := fun v h => by
    apply Classical.byContradiction
    intro c
    rw [Nat.testBit_lt_two_pow (Nat.lt_of_lt_of_le hs (Nat.pow_le_pow_right (by decide) (by omega)))] at h
    cases h
  have bit : ∀ k, k < n → ((qOr (qTv pl t L n) set 6).testBit k = true ↔ qTd pl t (L k).1 (L k).2 set = true) := fun k hk => by
    rw [qOr_bit]
    unfold qTd
    rw [decide_eq_true_iff, qFst_lt]
    constructor
    · rintro ⟨v, _, h2, h3⟩
      refine ⟨v, hv v h2, ?_⟩
      unfold qTv at h3
      rw [qSet_bit, Bool.and_eq_true] at h3
      rw [h2, Bool.true_and]; exact h3.2
    · rintro ⟨v, h1, h2⟩
      rw [Bool.and_eq_true] at h2
      refine ⟨v, by omega, h2.1, ?_⟩
      unfold qTv
      rw [qSet_bit, decide_eq_true hk, Bool.true_and]; exact h2.2
  unfold qWt
  rw [decide_eq_true_iff]
  constructor
  · intro e a ha b hb hab
    obtain ⟨k, hk, e2⟩ := hL.2 a b ⟨Or.inl ha, hab, hb⟩
    have := (bit k hk).mp (by rw [e]; exact pow_all hk)
    rw [e2] at this
    exact this
  · intro h
    apply Nat.eq_of_testBit_eq
    intro k
    rcases Nat.lt_or_ge k n with u | u
    · have hd := hL.1 k u
      have h1 : (L k).1 < many := by have := hd.2; omega
      rw [pow_all u, (bit k u).mpr (h _ h1 _ hd.2.2 hd.2.1)]
    · rw [Nat.testBit_two_pow_sub_one, decide_eq_false (by omega)]
      apply Bool.eq_false_iff.mpr
      intro c
      rw [qOr_bit] at c
      obtain ⟨v, _, _, h3⟩ := c
      unfold qTv at h3
      rw [qSet_bit, decide_eq_false (by omega)] at h3
      cases h3
section WAT
variable {x : jX} {d : Nat} {M : jM} {z : qZ}
theorem k_couplesTold {P : jM → Int32 → Prop} {T : Nat → Nat} {set n : Nat} (hn : n ≤ 6) (hs : set < 2 ^ n) (hT : ∀ v, v < n → M.1 68 v = nI (T v)) (hP : P M (nI (qOr T set 6))) : JC x jtbC mX0_couplesTold d [.ref (x.2.2.2 62), .int (nI set)] M (jI P) := by
  have h64 : 2 ^ n ≤ 2 ^ 6 := Nat.pow_le_pow_right (by decide) hn
  refine b_X0_couplesTold ?_
  refine jloop (fun i (s : Int32) => JW x jtbC mX0_couplesTold d (jI P) 4 [(0, .ref (x.2.2.2 62)), (1, .int (nI set)), (2, .int s), (3, .int (nI i))] [] M) (fun i s => s = nI (qOr T set i)) 6 ?_ ?_ 0 0 (Nat.zero_le _) rfl
  · rintro _ rfl
    exact b_X0_couplesTold_4 (pk_le 6 6 (fun _ => hP) (fun c => absurd c (by omega)))
  · rintro i _ hi rfl ih
    refine b_X0_couplesTold_4 (pk_le 6 i (fun c => absurd c (by omega)) (fun _ => ?_))
    rw [nI_testBit _ (by omega) (by omega), nI_1]
    refine ⟨fun c => ih _ ?_, fun c => ⟨i, hi, rfl, ih _ ?_⟩⟩
    · show nI _ ||| nI 0 = nI (qOr T set i ||| (if set.testBit i then T i else 0))
      rw [if_neg c, fa_or]
    · have hin : i < n := by
        apply Classical.byContradiction
        intro u
        rw [Nat.testBit_lt_two_pow (Nat.lt_of_lt_of_le hs (Nat.pow_le_pow_right (by decide) (by omega)))] at c
        cases c
      show _ = nI (qOr T set i ||| (if set.testBit i then T i else 0))
      rw [hT i hin, fa_or, if_pos c]
theorem k_tellRows {P : jM → Prop} {t many : Nat} (h : cI M z) (ht : t < 4) (hm : 2 ≤ many) (hm4 : many ≤ 4) (hl : many * qc (zP z) ≤ (zTr z t).2.2.1) (hH : ∀ j, j < many * qc (zP z) → qht ((zTr z t).2.2.2 j) = true)
    (hP : ∀ M' L, cI M' z → qLi L (qCn many many) many many 0 → (∀ v, v < qn (zP z) → M'.1 68 v = nI (qTv (zP z) (zTr z t) L (qCn many many) v)) → P M') : JC x jtbC mX0_tellRowsApart (d + 4) [.ref (x.2.2.2 62), .ref (x.2.2.2 30), .ref (x.2.2.2 (77 + 2 * t)), .int (nI many)] M (jV P) := by
  have w := h.pl.wf
  have h25 := w.c25
  have h6 := w.2.2.2.1
  have rowlen : ∀ a, a < many → a * qc (zP z) + qc (zP z) ≤ many * qc (zP z) := fun a ha => by
    have : (a + 1) * qc (zP z) ≤ many * qc (zP z) := Nat.mul_le_mul_right _ ha
    rw [Nat.add_mul, Nat.one_mul] at this
    exact this
  have c100 : many * qc (zP z) ≤ 4 * 25 := Nat.mul_le_mul hm4 h25
  have cn : ∀ a, a ≤ 4 → qCn many a ≤ 16 := fun a ha => by
    have : ∀ b, qCn many b ≤ b * many := fun b => by
      induction b with
      | zero => exact Nat.zero_le _
      | succ b ih => show qCn many b + (many - (b + 1)) ≤ (b + 1) * many; rw [Nat.add_mul]; omega
    exact Nat.le_trans (this a) (Nat.mul_le_mul ha hm4)
  refine b_X0_tellRowsApart (k_fillI sC_68 (by decide) (fun M1 f1 f2 f3 => ?_))
  have h1 : cI M1 z := h.scr (f1.mono (fun q hq => by unfold cScr; omega))
  refine jloop2 (fun a (M3 : jM) (L : Nat → Nat × Nat) => JW x jtbC mX0_tellRowsApart (d + 4) (jV P) 14 [(0, .ref (x.2.2.2 62)), (1, .ref (x.2.2.2 30)), (2, .ref (x.2.2.2 (77 + 2 * t))), (3, .int (nI many)), (4, .int (nI (qCn many a))), (5, .int (nI a))] [] M3) (fun a M3 L => cI M3 z ∧ qLi L (qCn many a) many a 0 ∧ ∀ v, v < qn (zP z) → M3.1 68 v = nI (qTv (zP z) (zTr z t) L (qCn many a) v)) many ?_ ?_ 0 M1 (fun _ => (0, 0)) (Nat.zero_le _) ⟨h1, ⟨fun k hk => absurd hk (Nat.not_lt_zero _), fun a' b' hd => by unfold qHd at hd; omega⟩, fun v hv => f3 v (by omega)⟩
  · rintro M3 L ⟨g, hL, rows⟩
    exact b_X0_tellRowsApart_14 (at9 ht) (pk_le many many (fun _ => hP M3 L g hL rows) (fun c => absurd c (by omega)))
  · rintro a M3 L ha ⟨g, hL, rows⟩ ih
    refine b_X0_tellRowsApart_14 (at9 ht) (pk_le many a (fun c => absurd c (by omega)) (fun _ => ?_))
    rw [g.pl.c, pk_mul]
    have ra := rowlen a ha
    refine k_copyHeights (from_ := a * qc (zP z)) (many := qc (zP z)) (place := 0) (at9 ht) (g.tr ht) sC_63 (by decide) (by omega) (by omega) (fun k hk => hH _ (by omega)) (fun M4 g1 g2 g3 _ => ?_)
    have h4 : cI M4 z := g.scr (g1.mono (fun q hq => by unfold cScr; omega))
    rw [nI_1, show nI (qCn many a) = nI (qCn many a + (a + 1 - (a + 1))) by rw [Nat.sub_self, Nat.add_zero]]
    have ca := cn a (by omega)
    refine jloop2 (fun b (M5 : jM) (L : Nat → Nat × Nat) => JW x jtbC mX0_tellRowsApart (d + 4) (jV P) 46 [(0, .ref (x.2.2.2 62)), (1, .ref (x.2.2.2 30)), (2, .ref (x.2.2.2 (77 + 2 * t))), (3, .int (nI many)), (4, .int (nI (qCn many a + (b - (a + 1))))), (5, .int (nI a)), (6, .int (nI b))] [] M5) (fun b M5 L => cI M5 z ∧ a + 1 ≤ b ∧ (∀ c, c < qc (zP z) → M5.1 63 c = nI (qRow (zP z) (zTr z t) a c)) ∧ qLi L (qCn many a + (b - (a + 1))) many a b ∧ ∀ v, v < qn (zP z) → M5.1 68 v = nI (qTv (zP z) (zTr z t) L (qCn many a + (b - (a + 1))) v)) many ?_ ?_ (a + 1) M4 L ha ⟨h4, Nat.le_refl _, fun c hc => ?_, ?_, fun v hv => ?_⟩
    · rintro M5 L5 ⟨k1, _, k2, k3, k4⟩
      refine b_X0_tellRowsApart_46 (at9 ht) (pk_le many many (fun _ => ?_) (fun c => absurd c (by omega)))
      rw [nI_1]
      refine ih M5 L5 ⟨k1, ⟨fun k hk => ?_, fun a' b' hd => ?_⟩, k4⟩
      · have := k3.1 k hk
        unfold qHd at this ⊢
        omega
      · refine k3.2 a' b' ?_
        unfold qHd at hd ⊢
        omega
    · rintro b M5 L5 hb ⟨k1, hab, k2, k3, k4⟩ ihb
      refine b_X0_tellRowsApart_46 (at9 ht) (pk_le many b (fun c => absurd c (by omega)) (fun _ => ?_))
      rw [k1.pl.c, pk_mul]
      have rb := rowlen b hb
      refine k_copyHeights (from_ := b * qc (zP z)) (many := qc (zP z)) (place := 0) (at9 ht) (k1.tr ht) sC_64 (by decide) (by omega) (by omega) (fun k hk => hH _ (by omega)) (fun M6 m1 m2 m3 _ => ?_)
      have h6' : cI M6 z := k1.scr (m1.mono (fun q hq => by unfold cScr; omega))
      have r63 : ∀ c, c < qc (zP z) → M6.1 63 c = nI (qRow (zP z) (zTr z t) a c) := fun c hc => by rw [(m1 63 (by omega)).1]; exact k2 c hc
      have r64 : ∀ c, c < qc (zP z) → M6.1 64 c = nI (qRow (zP z) (zTr z t) b c) := fun c hc => by have := m3 c hc; rw [Nat.zero_add] at this; exact this
      have r68 : ∀ v, v < qn (zP z) → M6.1 68 v = nI (qTv (zP z) (zTr z t) L5 (qCn many a + (b - (a + 1))) v) := fun v hv => by rw [(m1 68 (by omega)).1]; exact k4 v hv
      clear m1 m2 m3
      generalize hN : qCn many a + (b - (a + 1)) = N at *
      have hN2 : qCn many a + (b + 1 - (a + 1)) = N + 1 := by omega
      rw [hN2] at ihb
      let L6 : Nat → Nat × Nat := fun k => if k = N then (a, b) else L5 k
      have hlast : ∀ v, qTv (zP z) (zTr z t) L6 (N + 1) v = qTv (zP z) (zTr z t) L5 N v ||| (if qTe (zP z) (zTr z t) a b v then 2 ^ N else 0) := fun v => by
        show qSet (fun k => qTe (zP z) (zTr z t) (L6 k).1 (L6 k).2 v) N ||| (if qTe (zP z) (zTr z t) (L6 N).1 (L6 N).2 v then 2 ^ N else 0) = _
        rw [show L6 N = (a, b) from if_pos rfl]
        congr 1
        exact qSet_cong (fun k hk => by rw [show L6 k = L5 k from if_neg (by omega)])
      refine jloop (fun v (M7 : jM) => JW x jtbC mX0_tellRowsApart (d + 4) (jV P) 75 [(0, .ref (x.2.2.2 62)), (1, .ref (x.2.2.2 30)), (2, .ref (x.2.2.2 (77 + 2 * t))), (3, .int (nI many)), (4, .int (nI N)), (5, .int (nI a)), (6, .int (nI b)), (7, .int (nI v))] [] M7) (fun v M7 => cI M7 z ∧ (∀ c, c < qc (zP z) → M7.1 63 c = nI (qRow (zP z) (zTr z t) a c)) ∧ (∀ c, c < qc (zP z) → M7.1 64 c = nI (qRow (zP z) (zTr z t) b c)) ∧ (∀ u, u < v → u < qn (zP z) → M7.1 68 u = nI (qTv (zP z) (zTr z t) L6 (N + 1) u)) ∧ ∀ u, v ≤ u → u < qn (zP z) → M7.1 68 u = nI (qTv (zP z) (zTr z t) L5 N u)) (qn (zP z)) ?_ ?_ 0 M6 (Nat.zero_le _) ⟨h6', r63, r64, fun u hu => absurd hu (Nat.not_lt_zero _), fun u _ hu => r68 u hu⟩
      · rintro M7 ⟨p1, p2, p3, p4, p5⟩
        refine b_X0_tellRowsApart_75 ?_
        rw [p1.pl.n]
        refine pk_le (qn (zP z)) (qn (zP z)) (fun _ => ?_) (fun c => absurd c (by omega))
        rw [nI_1, nI_1]
        refine ihb M7 L6 ⟨p1, by omega, p2, ⟨fun k hk => ?_, fun a' b' hd => ?_⟩, fun v hv => p4 v hv hv⟩
        · by_cases e : k = N
          · rw [show L6 k = (a, b) from if_pos e]
            unfold qHd
            dsimp only
            omega
          · rw [show L6 k = L5 k from if_neg e]
            have := k3.1 k (by omega)
            unfold qHd at this ⊢
            omega
        · by_cases e : a' = a ∧ b' = b
          · exact ⟨N, by omega, by rw [e.1, e.2]; exact if_pos rfl⟩
          · obtain ⟨k, hk, e2⟩ := k3.2 a' b' (by unfold qHd at hd ⊢; omega)
            exact ⟨k, by omega, by rw [← e2]; exact if_neg (by omega)⟩
      · rintro v M7 hv ⟨p1, p2, p3, p4, p5⟩ ihv
        refine b_X0_tellRowsApart_75 ?_
        rw [p1.pl.n]
        refine pk_le (qn (zP z)) v (fun c => absurd c (by omega)) (fun _ => ⟨v, by omega, rfl, ?_⟩)
        rw [p5 v (Nat.le_refl _) hv]
        refine k_firstApart (f := qRow (zP z) (zTr z t) a) (g := qRow (zP z) (zTr z t) b) p1.pl hv p2 (qRow_le _ _ _) p3 (qRow_le _ _ _) (fun M8 s1 s2 => ?_)
        have h8 : cI M8 z := p1.scr (s1.mono (fun q hq => by unfold cScr; omega))
        have hle : qAp (zP z) (qRow (zP z) (zTr z t) a) (qRow (zP z) (zTr z t) b) v ≤ qSt (zP z) v := qFst_le _ _
        have h9 := qSt_le w v
        have nx : ∀ (M9 : jM) (r : Int32), M9 = jrI M8 68 (upd (M8.1 68) v r) → r = nI (qTv (zP z) (zTr z t) L6 (N + 1) v) → JW x jtbC mX0_tellRowsApart (d + 4) (jV P) 75 [(0, .ref (x.2.2.2 62)), (1, .ref (x.2.2.2 30)), (2, .ref (x.2.2.2 (77 + 2 * t))), (3, .int (nI many)), (4, .int (nI N)), (5, .int (nI a)), (6, .int (nI b)), (7, .int (nI v + 1))] [] M9 := fun M9 r e9 er => by
          rw [nI_1]
          refine ihv M9 ⟨?_, fun c hc => ?_, fun c hc => ?_, fun u hu hu2 => ?_, fun u hu hu2 => ?_⟩
          · rw [e9]; exact h8.scr ((jsame.I (S := fun q => q = 68) rfl).mono (fun q hq => by unfold cScr; omega))
          · rw [e9, jrI_n (by omega), (s1 63 (by omega)).1]; exact p2 c hc
          · rw [e9, jrI_n (by omega), (s1 64 (by omega)).1]; exact p3 c hc
          · rw [e9, jrI_s]
            by_cases e : u = v
            · rw [e, pk_us]; exact er
            · rw [pk_un e, (s1 68 (by omega)).1]; exact p4 u (by omega) hu2
          · rw [e9, jrI_s, pk_un (by omega), (s1 68 (by omega)).1]; exact p5 u (by omega) hu2
        refine qAp_ne (by omega) (fun q => fun M9 e9 => nx M9 _ e9 ?_) (fun q => fun M9 e9 => nx M9 _ e9 ?_)
        · rw [hlast, show qTe (zP z) (zTr z t) a b v = true from decide_eq_true q, nI_shl1 _ (by omega), fa_or, if_pos rfl]
        · rw [hlast, show qTe (zP z) (zTr z t) a b v = false from decide_eq_false q, if_neg (by decide)]
          show _ ||| nI 0 = _
          rw [fa_or]
    · have := g3 c hc
      rw [Nat.zero_add] at this
      exact this
    · rw [Nat.sub_self, Nat.add_zero]
      refine ⟨fun k hk => ?_, fun a' b' hd => hL.2 a' b' ?_⟩
      · have := hL.1 k hk
        unfold qHd at this ⊢
        omega
      · unfold qHd at hd ⊢
        omega
    · rw [Nat.sub_self, Nat.add_zero, (g1 68 (by omega)).1]
      exact rows v hv
end WAT
