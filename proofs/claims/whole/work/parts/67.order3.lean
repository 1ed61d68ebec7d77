/-! the order by all sets, as the model finds it -/
def oD (pl : qP) (f g D : Nat → Nat) (n m : Nat) : Prop := (∀ i, i < n → D i < m ∧ ¬ f (D i) = g (D i)) ∧ (∀ i j, i < j → j < n → D i < D j) ∧ ∀ c, c < m → ¬ f c = g c → ∃ i, i < n ∧ D i = c
def qMx (f g D : Nat → Nat) (S : Nat) : Nat → Nat → Nat
  | 0 => f
  | i + 1 => tset (qMx f g D S i) (D i) (if S.testBit i then g (D i) else f (D i))
theorem mx_out {f g D : Nat → Nat} {S c : Nat} : ∀ {n : Nat}, (∀ i, i < n → ¬ D i = c) → qMx f g D S n c = f c
  | 0, _ => rfl
  | n + 1, h => by
    show tset _ _ _ c = _
    unfold tset
    rw [if_neg (fun e => h n (by omega) e.symm)]
    exact mx_out (fun i hi => h i (by omega))
theorem mx_at {f g D : Nat → Nat} {S i : Nat} : ∀ {n : Nat}, (∀ i j, i < j → j < n → D i < D j) → i < n → qMx f g D S n (D i) = if S.testBit i then g (D i) else f (D i)
  | 0, _, h => absurd h (Nat.not_lt_zero _)
  | n + 1, hm, h => by
    show tset _ _ _ (D i) = _
    unfold tset
    by_cases e : i = n
    · rw [e, if_pos rfl]
    · have := hm i n (by omega) (by omega)
      rw [if_neg (by omega)]
      exact mx_at (fun a b h1 h2 => hm a b h1 (by omega)) (by omega)
theorem mx_le {f g D : Nat → Nat} {S : Nat} (hf : ∀ c, f c ≤ 99) (hg : ∀ c, g c ≤ 99) : ∀ n c, qMx f g D S n c ≤ 99
  | 0, c => hf c
  | n + 1, c => by
    refine tset_le (fun c => mx_le hf hg n c) ?_ c
    split
    · exact hg _
    · exact hf _
section PUR
variable {pl : qP} {f g D : Nat → Nat} {n : Nat}
theorem mx_or (h : oD pl f g D n (qc pl)) {S c : Nat} : qMx f g D S n c = f c ∨ ∃ i, i < n ∧ D i = c ∧ S.testBit i = true ∧ qMx f g D S n c = g c := by
  by_cases e : ∃ i, i < n ∧ D i = c
  · obtain ⟨i, h1, h2⟩ := e
    have := mx_at (f := f) (g := g) (S := S) h.2.1 h1
    rw [h2] at this
    cases b : S.testBit i
    · rw [b] at this; exact Or.inl this
    · rw [b] at this; exact Or.inr ⟨i, h1, h2, b, this⟩
  · exact Or.inl (mx_out (fun i hi c => e ⟨i, hi, c⟩))
theorem mx_all (h : oD pl f g D n (qc pl)) : ∀ c, c < qc pl → qMx f g D (2 ^ n - 1) n c = g c := fun c hc => by
  by_cases e : f c = g c
  · rcases mx_or h (S := 2 ^ n - 1) (c := c) with q | ⟨i, _, _, _, q⟩
    · rw [q, e]
    · exact q
  · obtain ⟨i, h1, h2⟩ := h.2.2 c hc e
    have := mx_at (f := f) (g := g) (S := 2 ^ n - 1) h.2.1 h1
    rw [pow_all h1, h2] at this
    exact this
theorem mx_zero (h : oD pl f g D n (qc pl)) : ∀ c, qMx f g D 0 n c = f c := fun c => by
  rcases mx_or h (S := 0) (c := c) with q | ⟨i, _, _, b, _⟩
  · exact q
  · rw [Nat.zero_testBit] at b; cases b
theorem mx_step (h : oD pl f g D n (qc pl)) {S i : Nat} (hi : i < n) : ∀ c, qMx f g D (S ||| 2 ^ i) n c = tset (qMx f g D S n) (D i) (g (D i)) c := fun c => by
  unfold tset
  by_cases e : ∃ j, j < n ∧ D j = c
  · obtain ⟨j, h1, h2⟩ := e
    have a1 := mx_at (f := f) (g := g) (S := S ||| 2 ^ i) h.2.1 h1
    have a2 := mx_at (f := f) (g := g) (S := S) h.2.1 h1
    rw [fb_bit_set, h2] at a1
    rw [h2] at a2
    by_cases q : j = i
    · have ec : c = D i := by rw [← h2, q]
      rw [decide_eq_true q, Bool.or_true, if_pos rfl] at a1
      rw [a1, if_pos ec, ec]
    · have ne : ¬ c = D i := fun w => by
        rcases Nat.lt_or_ge j i with u | u
        · have := h.2.1 j i u hi; omega
        · have := h.2.1 i j (by omega) h1; omega
      rw [a1, if_neg ne, a2, decide_eq_false q, Bool.or_false]
  · rw [mx_out (fun j hj w => e ⟨j, hj, w⟩), if_neg (fun w => e ⟨i, hi, w.symm⟩), mx_out (fun j hj w => e ⟨j, hj, w⟩)]
def qGd (pl : qP) (f g D : Nat → Nat) (n S : Nat) : Bool := qAlk pl f g && qAlk pl f (qMx f g D S n)
theorem good_step (h : oD pl f g D n (qc pl)) {S : Nat} (hS : S < 2 ^ n) : (S = 2 ^ n - 1 ∨ ∃ i, i < n ∧ S.testBit i = false ∧ qGd pl f g D n (S ||| 2 ^ i) = true) ∧ qAlk pl f (qMx f g D S n) = true ↔ qGd pl f g D n S = true := by
  unfold qGd
  rw [Bool.and_eq_true]
  constructor
  · rintro ⟨q, al⟩
    refine ⟨?_, al⟩
    rcases q with rfl | ⟨i, _, _, q⟩
    · rw [qAlk_cong (mx_all h)] at al; exact al
    · rw [Bool.and_eq_true] at q; exact q.1
  · rintro ⟨hg, al⟩
    refine ⟨?_, al⟩
    by_cases e : S = 2 ^ n - 1
    · exact Or.inl e
    · refine Or.inr ?_
      have ne : ∃ c, c < qc pl ∧ ¬ qMx f g D S n c = g c := by
        obtain ⟨i, hi⟩ : ∃ i, S.testBit i ≠ (2 ^ n - 1).testBit i := by
          apply Classical.byContradiction
          intro c
          exact e (Nat.eq_of_testBit_eq (fun i => Classical.byContradiction (fun q => c ⟨i, q⟩)))
        have hin : i < n := by
          apply Classical.byContradiction
          intro u
          rw [Nat.testBit_lt_two_pow (Nat.lt_of_lt_of_le hS (Nat.pow_le_pow_right (by decide) (by omega))), Nat.testBit_two_pow_sub_one, decide_eq_false u] at hi
          exact hi rfl
        have bit : S.testBit i = false := by
          rw [pow_all hin] at hi
          exact Bool.eq_false_iff.mpr hi
        refine ⟨D i, (h.1 i hin).1, ?_⟩
        rw [mx_at h.2.1 hin, bit]
        exact (h.1 i hin).2
      obtain ⟨c, c1, c2, c3⟩ := order_prog hg al ne
      have fc : ¬ f c = g c := fun e => by
        rcases mx_or h (S := S) (c := c) with q | ⟨_, _, _, _, q⟩
        · exact c2 (q.trans e)
        · exact c2 q
      obtain ⟨i, h1, h2⟩ := h.2.2 c c1 fc
      refine ⟨i, h1, ?_, ?_⟩
      · apply Bool.eq_false_iff.mpr
        intro b
        apply c2
        rw [← h2, mx_at h.2.1 h1, b]; rfl
      · rw [Bool.and_eq_true]
        refine ⟨hg, ?_⟩
        rw [qAlk_cong (fun c _ => mx_step h h1 c), h2]
        exact c3
/-- the next one: of the cells, and of their row -/
theorem next_same (h : oD pl f g D n (qc pl)) (hg : qAlk pl f g = true) {S : Nat} {t : Nat → Nat} (ht : ∀ c, t c = qMx f g D S n c) (hn : qNx pl f g t < qc pl) : ∃ i, i < n ∧ S.testBit i = false ∧ qGd pl f g D n (S ||| 2 ^ i) = true ∧ (∀ j, j < i → S.testBit j = true ∨ qGd pl f g D n (S ||| 2 ^ j) = false) ∧ D i = qNx pl f g t := by
  have key : ∀ i, i < n → ((S.testBit i = false ∧ qGd pl f g D n (S ||| 2 ^ i) = true) ↔ (decide (¬ t (D i) = g (D i)) && qAlk pl f (tset t (D i) (g (D i)))) = true) := fun i hi => by
    rw [Bool.and_eq_true, decide_eq_true_iff, ht, mx_at h.2.1 hi]
    unfold qGd
    rw [hg, Bool.true_and, qAlk_cong (fun c _ => mx_step h hi c), qAlk_cong (t := tset t (D i) (g (D i))) (t' := tset (qMx f g D S n) (D i) (g (D i))) (fun c _ => by unfold tset; rw [ht])]
    cases b : S.testBit i
    · exact ⟨fun q => ⟨(h.1 i hi).2, q.2⟩, fun q => ⟨rfl, q.2⟩⟩
    · exact ⟨fun q => (by cases q.1), fun q => absurd rfl q.1⟩
  obtain ⟨y1, y2⟩ := qFst_yes hn
  have y3 := qNx_ok hn
  obtain ⟨i, i1, i2⟩ := h.2.2 (qNx pl f g t) hn (fun e => by
    rcases mx_or h (S := S) (c := qNx pl f g t) with q | ⟨_, _, _, _, q⟩
    · exact y3.1 (by rw [ht, q, e])
    · exact y3.1 (by rw [ht, q]))
  have ki := (key i i1).mpr (by rw [i2]; exact y1)
  refine ⟨i, i1, ki.1, ki.2, fun j hj => ?_, i2⟩
  have hm := h.2.1 j i hj i1
  have no := y2 (D j) (by rw [i2] at hm; exact hm)
  cases b : S.testBit j
  · refine Or.inr (Bool.eq_false_iff.mpr (fun e => ?_))
    have := (key j (by omega)).mp ⟨b, e⟩
    rw [this] at no
    cases no
  · exact Or.inl rfl
end PUR
section OR3
variable {x : jX} {d : Nat} {M : jM} {z : qZ}
theorem m_isAsSeen {P : jM → Bool → Prop} {g D : Nat → Nat} {n S : Nat} (h : mI M z) (hn : n ≤ 12) (hS : S < 2 ^ 12) (hD : oD (zP z) (zT z) g D n (qc (zP z))) (s40 : M.1 0 40 = nI n) (r12 : ∀ i, i < n → M.1 12 i = nI (D i)) (r14 : ∀ c, c < qc (zP z) → M.1 14 c = nI (g c)) (bg : ∀ c, g c ≤ 99) (r17 : ∀ c, c < qc (zP z) → M.1 17 c = nI (zT z c)) (r8 : ∀ v s, v < qn (zP z) → s < qSt (zP z) v → M.1 8 (v * 9 + s) = nI (qG (qw (zP z)) (qh (zP z)) (qSide (zP z) v) s (zT z) (qc (zP z))))
    (hP : ∀ M', mI M' z → jsame (fun q => q = 5) M M' → M'.2 = M.2 → P M' (qAlk (zP z) (zT z) (qMx (zT z) g D S n))) : JC x jtbM mX12_isAsSeen (d + 2) [.ref (x.2.2.2 0), .int (nI S)] M (jZ P) := by
  have w := h.pl.wf
  have h25 := w.c25
  have h6 := w.2.2.2.1
  have t9 := h.tn.2
  have p12 : (2 : Nat) ^ 12 < 2 ^ 31 := by decide
  refine b_X12_isAsSeen ?_
  refine jloop (fun i (M3 : jM) => JW x jtbM mX12_isAsSeen (d + 2) (jZ P) 2 [(0, .ref (x.2.2.2 0)), (1, .int (nI S)), (2, .int (nI i))] [] M3) (fun i M3 => mI M3 (uTn z (qMx (zT z) g D S i)) ∧ jsame (fun q => q = 5) M M3 ∧ M3.2 = M.2) n ?_ ?_ 0 M (Nat.zero_le _) ⟨h, jsame.rf, rfl⟩
  · rintro M3 ⟨g1, g2, g3⟩
    refine b_X12_isAsSeen_2 ?_
    rw [(g2 0 (by omega)).1, s40]
    refine pk_le n n (fun _ => ?_) (fun c => absurd c (by omega))
    have pl3 : mPl (M3.1 5) (zP z) := g1.pl
    have tn3 : mTn (M3.1 5) (zP z) (qMx (zT z) g D S n) := g1.tn
    have rest : ∀ b : Bool, b = qAlk (zP z) (zT z) (qMx (zT z) g D S n) → JW x jtbM mX12_isAsSeen (d + 2) (jZ P) 150 [(0, .ref (x.2.2.2 0)), (2, .int (jb b)), (3, .int (0 : Int32))] [] M3 := fun b hb => by
      refine jloop2 (fun i (M4 : jM) (t : Nat → Nat) => JW x jtbM mX12_isAsSeen (d + 2) (jZ P) 150 [(0, .ref (x.2.2.2 0)), (2, .int (jb b)), (3, .int (nI i))] [] M4) (fun i M4 t => mI M4 (uTn z t) ∧ jsame (fun q => q = 5) M M4 ∧ M4.2 = M.2 ∧ (∀ c, t c ≤ 99) ∧ ∀ c, (∀ j, i ≤ j → j < n → ¬ D j = c) → t c = zT z c) n ?_ ?_ 0 M3 (qMx (zT z) g D S n) (Nat.zero_le _) ⟨g1, g2, g3, mx_le t9 bg n, fun c hc => mx_out (fun j hj => hc j (Nat.zero_le _) hj)⟩
      · rintro M4 t ⟨k1, k2, k3, _, k4⟩
        refine b_X12_isAsSeen_150 ?_
        rw [(k2 0 (by omega)).1, s40]
        refine pk_le n n (fun _ => ⟨b, rfl, ?_⟩) (fun c => absurd c (by omega))
        have e : t = zT z := funext (fun c => k4 c (fun j h1 h2 => absurd h1 (by omega)))
        rw [e] at k1
        rw [hb]
        exact hP M4 k1 k2 k3
      · rintro i M4 t hi ⟨k1, k2, k3, kb, k4⟩ ih
        have hd := (hD.1 i hi).1
        refine b_X12_isAsSeen_150 ?_
        rw [(k2 0 (by omega)).1, s40]
        refine pk_le n i (fun c => absurd c (by omega)) (fun _ => ⟨i, by omega, rfl, ?_⟩)
        rw [(k2 12 (by omega)).1, r12 i hi]
        refine ⟨D i, by omega, rfl, 144 + D i, by omega, by rw [jn144, nI_add], ?_⟩
        intro M5 e5
        rw [nI_1]
        refine ih M5 (tset t (D i) (zT z (D i))) ⟨?_, ?_, by rw [e5]; exact k3, tset_le kb (t9 _), fun c hc => ?_⟩
        · rw [e5]
          refine mI.setTn (z := uTn z t) (f := tset t (D i) (zT z (D i))) k1 (fun q hq => jrI_n hq) rfl (fun k hk => by rw [jrI_s, pk_un (by omega)]) (fun c hc => ?_) (tset_le kb (t9 _))
          rw [jrI_s]
          unfold tset
          by_cases q : c = D i
          · rw [if_pos q, q, pk_us, (k2 17 (by omega)).1, r17 _ hd]
          · rw [if_neg q, pk_un (by omega)]; exact k1.tn.1 c hc
        · rw [e5]; exact k2.tr (jsame.I rfl)
        · unfold tset
          by_cases q : c = D i
          · rw [if_pos q, q]
          · rw [if_neg q]
            refine k4 c (fun j h1 h2 => ?_)
            by_cases u : j = i
            · rw [u]; exact fun w => q w.symm
            · exact hc j (by omega) h2
    have E : ∀ v s, v < qn (zP z) → s < qSt (zP z) v → (nI (qG (qw (zP z)) (qh (zP z)) (qSide (zP z) v) s (qMx (zT z) g D S n) (qc (zP z))) = M3.1 8 (v * 9 + s) ↔ qG (qw (zP z)) (qh (zP z)) (qSide (zP z) v) s (qMx (zT z) g D S n) (qc (zP z)) = qG (qw (zP z)) (qh (zP z)) (qSide (zP z) v) s (zT z) (qc (zP z))) := fun v s hv hs => by
      have q1 := qG_le (w := qw (zP z)) (h := qh (zP z)) (side := qSide (zP z) v) (s := s) (mx_le (D := D) (S := S) t9 bg n) (qc (zP z))
      have q2 := qG_le (w := qw (zP z)) (h := qh (zP z)) (side := qSide (zP z) v) (s := s) t9 (qc (zP z))
      rw [(g2 8 (by omega)).1, r8 v s hv hs, nI_eq (by omega) (by omega)]
    refine jloop (fun v (b : Bool) => JW x jtbM mX12_isAsSeen (d + 2) (jZ P) 69 [(0, .ref (x.2.2.2 0)), (2, .int (jb b)), (3, .int (nI v))] [] M3) (fun v b => b = true ↔ ∀ v', v' < v → ∀ s, s < qSt (zP z) v' → qG (qw (zP z)) (qh (zP z)) (qSide (zP z) v') s (qMx (zT z) g D S n) (qc (zP z)) = qG (qw (zP z)) (qh (zP z)) (qSide (zP z) v') s (zT z) (qc (zP z))) (qn (zP z)) ?_ ?_ 0 true (Nat.zero_le _) ⟨fun _ v hv => absurd hv (Nat.not_lt_zero _), fun _ => rfl⟩
    · rintro b hb
      refine b_X12_isAsSeen_69 ?_
      rw [pl3.n]
      refine pk_le (qn (zP z)) (qn (zP z)) (fun _ => rest b ?_) (fun c => absurd c (by omega))
      have : (b = true ↔ qAlk (zP z) (zT z) (qMx (zT z) g D S n) = true) := hb.trans qAlk_iff.symm
      exact Bool.eq_iff_iff.mpr this
    · rintro v b hv hb ih
      refine b_X12_isAsSeen_69 ?_
      rw [pl3.n]
      refine pk_le (qn (zP z)) v (fun c => absurd c (by omega)) (fun _ => ?_)
      rw [jb_0]
      refine ⟨fun c => rest b ?_, fun c => ?_⟩
      · rw [c] at hb ⊢
        symm
        apply Bool.eq_false_iff.mpr
        intro al
        have := hb.mpr (fun v' h1 s hs => qAlk_iff.mp al v' (by omega) s hs)
        cases this
      · have h9 := qSt_le w v
        have s8 := w.2.2.2.2.2.2.2.2.2.1 v
        refine jloop (fun s (b : Bool) => JW x jtbM mX12_isAsSeen (d + 2) (jZ P) 86 [(0, .ref (x.2.2.2 0)), (2, .int (jb b)), (3, .int (nI v)), (4, .int (nI s))] [] M3) (fun s b => b = true ↔ (∀ v', v' < v → ∀ s, s < qSt (zP z) v' → qG (qw (zP z)) (qh (zP z)) (qSide (zP z) v') s (qMx (zT z) g D S n) (qc (zP z)) = qG (qw (zP z)) (qh (zP z)) (qSide (zP z) v') s (zT z) (qc (zP z))) ∧ ∀ s', s' < s → qG (qw (zP z)) (qh (zP z)) (qSide (zP z) v) s' (qMx (zT z) g D S n) (qc (zP z)) = qG (qw (zP z)) (qh (zP z)) (qSide (zP z) v) s' (zT z) (qc (zP z))) (qSt (zP z) v) ?_ ?_ 0 b (Nat.zero_le _) ⟨fun q => ⟨hb.mp q, fun s hs => absurd hs (Nat.not_lt_zero _)⟩, fun q => hb.mpr q.1⟩
        · rintro b' hb'
          refine b_X12_isAsSeen_86 (k_mStrips pl3 hv (pk_le (qSt (zP z) v) (qSt (zP z) v) (fun _ => ?_) (fun c => absurd c (by omega))))
          rw [nI_1]
          refine ih b' (hb'.trans ⟨fun q v' h1 s hs => ?_, fun q => ⟨fun v' h1 => q v' (by omega), fun s hs => q v (by omega) s hs⟩⟩)
          rcases Nat.lt_or_ge v' v with u | u
          · exact q.1 v' u s hs
          · obtain rfl : v' = v := by omega
            exact q.2 s hs
        · rintro s b' hs hb' ihs
          refine b_X12_isAsSeen_86 (k_mStrips pl3 hv (pk_le (qSt (zP z) v) s (fun c => absurd c (by omega)) (fun _ => ?_)))
          rw [jb_0, nI_1]
          refine ⟨fun c => ihs false ⟨fun q => (by cases q), fun q => ?_⟩, fun c => ⟨78 + v, by omega, by rw [jn78, nI_add], ?_⟩⟩
          · have := hb'.mpr ⟨q.1, fun s' h1 => q.2 s' (by omega)⟩
            rw [c] at this
            cases this
          · have bt : b' = true := by revert c; cases b' <;> simp
            have yes := hb'.mp bt
            rw [pl3.side hv]
            refine k_mSeenFrom (pl := zP z) (f := qMx (zT z) g D S n) pl3 tn3 s8 (by omega) ⟨v * 9 + s, by omega, by rw [jn9, pk_mul, nI_add, Nat.mul_comm], ?_⟩
            rw [E v s hv hs]
            refine ⟨fun q => ihs false ⟨fun w => (by cases w), fun w => absurd (w.2 s (by omega)) q⟩, fun q => ihs true ⟨fun _ => ⟨yes.1, fun s' h1 => ?_⟩, fun _ => rfl⟩⟩
            rcases Nat.lt_or_ge s' s with u | u
            · exact yes.2 s' u
            · obtain rfl : s' = s := by omega
              exact q
  · rintro i M3 hi ⟨g1, g2, g3⟩ ih
    have hd := (hD.1 i hi).1
    have put : ∀ (r : Int32) (v : Nat), v ≤ 99 → r = nI v → (v = if S.testBit i then g (D i) else zT z (D i)) → ∀ M4, M4 = jrI M3 5 (upd (M3.1 5) (144 + D i) r) → JW x jtbM mX12_isAsSeen (d + 2) (jZ P) 2 [(0, .ref (x.2.2.2 0)), (1, .int (nI S)), (2, .int (nI i + 1))] [] M4 := fun r v hv er ev M4 e4 => by
      rw [nI_1]
      refine ih M4 ⟨?_, ?_, by rw [e4]; exact g3⟩
      · rw [e4]
        refine mI.setTn (z := uTn z (qMx (zT z) g D S i)) (f := qMx (zT z) g D S (i + 1)) g1 (fun q hq => jrI_n hq) rfl (fun k hk => by rw [jrI_s, pk_un (by omega)]) (fun c hc => ?_) (mx_le t9 bg _)
        rw [jrI_s]
        show _ = nI (tset (qMx (zT z) g D S i) (D i) (if S.testBit i then g (D i) else zT z (D i)) c)
        unfold tset
        by_cases q : c = D i
        · rw [if_pos q, q, pk_us, er, ev]
        · rw [if_neg q, pk_un (by omega)]; exact g1.tn.1 c hc
      · rw [e4]; exact g2.tr (jsame.I rfl)
    refine b_X12_isAsSeen_2 ?_
    rw [(g2 0 (by omega)).1, s40]
    refine pk_le n i (fun c => absurd c (by omega)) (fun _ => ⟨i, by omega, rfl, ?_⟩)
    refine b_X12_has ?_
    rw [nI_testBit _ (by omega) (by omega), (g2 12 (by omega)).1, r12 i hi]
    refine ⟨fun q => ⟨fun _ => ⟨D i, by omega, rfl, 144 + D i, by omega, by rw [jn144, nI_add], put _ (zT z (D i)) (t9 _) ?_ ?_⟩, fun c => (by cases c)⟩, fun q => ⟨fun c => (by cases c), fun _ => ⟨D i, by omega, rfl, 144 + D i, by omega, by rw [jn144, nI_add], put _ (g (D i)) (bg _) ?_ ?_⟩⟩⟩
    · rw [(g2 17 (by omega)).1]; exact r17 _ hd
    · rw [if_neg q]
    · rw [(g2 14 (by omega)).1]; exact r14 _ hd
    · rw [if_pos q]
end OR3
