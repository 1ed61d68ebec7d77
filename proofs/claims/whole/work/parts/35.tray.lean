/-- a plain as it is begun -/
def qP0 (w h : Nat) : qP := (fun k => if k = 0 then w else if k = 1 then h else 0, fun r _ => if r = 0 then 99 else if r = 2 then 1 else 0, fun _ => 0)
theorem qP0_wf {w h : Nat} (hw : w ≤ 5) (hh : h ≤ 5) (hw1 : 1 ≤ w) (hh1 : 1 ≤ h) : qWf (qP0 w h) := by
  refine ⟨hw, hh, ⟨fun e => absurd e (by show ¬ w = 0; omega), fun e => absurd e (by show ¬ h = 0; omega)⟩, Nat.zero_le _, by show 0 < 2 ^ 0; decide, fun e => absurd e (by show ¬ w = 0; omega), fun c => by simp [qMost, qP0], fun c => by simp [qLeast, qP0], fun c => by simp [qPrice, qP0], fun v => by simp [qSide, qP0], fun v s => ?_⟩
  simp only [qLine, qP0]
  split
  · omega
  · split <;> omega
section KTR
variable {x : jX} {tb : jT} {d : Nat} {M : jM} {p : Nat}
theorem k_stripOf {P : jM → Int32 → Prop} {w h side a b : Nat} (a0 : aX5 tb p) (hw : M.1 p 0 = nI w) (hh : M.1 p 1 = nI h) (hs : side < 8) (ha : a < w) (hb : b < h) (hP : P M (nI (qF w h side (b * w + a)))) : JC x tb mX5_stripOf d [.ref (x.2.2.2 p), .int (nI side), .int (nI a), .int (nI b)] M (jI P) := by
  refine b_X5_stripOf a0 ?_
  rw [hw, hh]
  have e1 : (b * w + a) % w = a := by rw [Nat.add_comm, Nat.add_mul_mod_self_right, Nat.mod_eq_of_lt ha]
  have e2 : (b * w + a) / w = b := by rw [Nat.add_comm, Nat.add_mul_div_right _ _ (by omega), Nat.div_eq_of_lt ha, Nat.zero_add]
  have f0 : nI w - 1 - nI a = nI (w - 1 - a) := by rw [jn1, pk_sub (by omega), pk_sub (by omega)]
  have f1 : nI w + nI h - 2 - nI a - nI b = nI ((w - 1 - a) + (h - 1 - b)) := by rw [nI_add, jn2, pk_sub (by omega), pk_sub (by omega), pk_sub (by omega)]; congr 1; omega
  have f2 : nI h - 1 - nI b = nI (h - 1 - b) := by rw [jn1, pk_sub (by omega), pk_sub (by omega)]
  have f3 : nI h - 1 + nI a - nI b = nI ((h - 1 - b) + a) := by rw [jn1, pk_sub (by omega), nI_add, pk_sub (by omega)]; congr 1; omega
  have f5 : nI a + nI b = nI (a + b) := nI_add _ _
  have f7 : nI (w - 1 - a) + nI b = nI ((w - 1 - a) + b) := nI_add _ _
  simp only [f0, f1, f2, f3, f5, f7]
  rcases (show side = 0 ∨ side = 1 ∨ side = 2 ∨ side = 3 ∨ side = 4 ∨ side = 5 ∨ side = 6 ∨ side = 7 by omega) with rfl | rfl | rfl | rfl | rfl | rfl | rfl | rfl <;> simp only [qF, e1, e2] at hP <;> simp (decide := true) only [forall_const, true_and, and_true, not_true_eq_false, not_false_eq_true, false_implies, true_implies, implies_true] <;> exact hP
theorem k_begin {P : jM → Prop} {w h : Nat} (a0 : aX5 tb p) (hw : w ≤ 5) (hh : h ≤ 5) (hw1 : 1 ≤ w) (hh1 : 1 ≤ h) (hP : ∀ M', jsame (fun q => p ≤ q ∧ q < p + 8) M M' → cPl M' p (qP0 w h) → P M') : JC x tb mX5_begin (d + 1) [.ref (x.2.2.2 p), .int (nI w), .int (nI h)] M (jV P) := by
  have s0 := id a0
  refine b_X5_begin a0 ?_
  rintro M1 rfl M2 rfl M3 rfl M4 rfl M5 e5
  refine k_fillI a0.2.1 (by omega) ?_
  intro M6 g6 g6' f6
  refine k_fillI a0.2.2.1 (by omega) ?_
  intro M7 g7 g7' f7
  refine k_fillI a0.2.2.2.1 (by omega) ?_
  intro M8 g8 g8' f8
  have r0 : M8.1 p = M5.1 p := by rw [(g8 p (by omega)).1, (g7 p (by omega)).1, (g6 p (by omega)).1]
  have w0 : M8.1 p 0 = nI w := by rw [r0, e5]; simp (disch := omega) only [jrI_s, pk_un, pk_us]
  have w1 : M8.1 p 1 = nI h := by rw [r0, e5]; simp (disch := omega) only [jrI_s, pk_un, pk_us]
  have w2 : M8.1 p 2 = nI (w * h) := by rw [r0, e5]; simp (disch := omega) only [jrI_s, pk_un, pk_us]; rw [pk_mul]
  have w3 : M8.1 p 3 = nI 0 := by rw [r0, e5]; simp (disch := omega) only [jrI_s, pk_un, pk_us]; rfl
  have w4 : M8.1 p 4 = nI 0 := by rw [r0, e5]; simp (disch := omega) only [jrI_s, pk_un, pk_us]; rfl
  have sm : jsame (fun q => p ≤ q ∧ q < p + 8) M M8 := by
    intro q hq
    have hq' : q < p ∨ p + 8 ≤ q := by omega
    have a1 := g6 q (by omega)
    have a2 := g7 q (by omega)
    have a3 := g8 q (by omega)
    refine ⟨?_, ?_⟩
    · rw [a3.1, a2.1, a1.1, e5]
      simp (disch := omega) only [jrI_n]
    · rw [a3.2, a2.2, a1.2, e5]; rfl
  have n7 : M8.1 (p + 3) = M8.1 (p + 3) := rfl
  have v1 : ∀ c, c < 25 → M8.1 (p + 1) c = nI 99 := fun c hc => by rw [(g8 _ (by omega)).1, (g7 _ (by omega)).1]; exact f6 c hc
  have v2 : ∀ c, c < 25 → M8.1 (p + 2) c = nI 0 := fun c hc => by rw [(g8 _ (by omega)).1]; exact f7 c hc
  have v3 : ∀ c, c < 25 → M8.1 (p + 3) c = nI 1 := f8
  clear f6 f7 f8 g6 g7 g8 e5 g6' g7' g8' r0
  have hwh : w * h ≤ 25 := Nat.mul_le_mul hw hh
  have fin : ∀ M', jsame (fun q => q = p + 7) M8 M' → M'.2 = M8.2 → (∀ side c, side < 8 → c < w * h → M'.1 (p + 7) (side * 25 + c) = nI (qF w h side c)) → P M' := by
    intro M' g1 g2 g3
    have e0 := (g1 p (by omega)).1
    refine hP M' (sm.tr (g1.mono (fun q hq => by omega))) ⟨by rw [e0]; exact w0, by rw [e0]; exact w1, by rw [e0]; exact w2, by rw [e0]; exact w3, by rw [e0]; exact w4, fun c hc => ?_, fun c hc => ?_, fun c hc => ?_, fun v hv => absurd hv (Nat.not_lt_zero _), fun v hv => absurd hv (Nat.not_lt_zero _), fun v s hv => absurd hv (Nat.not_lt_zero _), g3, qP0_wf hw hh hw1 hh1⟩
    · rw [(g1 _ (by omega)).1]; exact v1 c hc
    · rw [(g1 _ (by omega)).1]; exact v2 c hc
    · rw [(g1 _ (by omega)).1]; exact v3 c hc
  refine jloop (fun y (M' : jM) => JW x tb mX5_begin (d + 1) (jV P) 60 [(0, .ref (x.2.2.2 p)), (3, .int (nI y))] [] M') (fun y M' => jsame (fun q => q = p + 7) M8 M' ∧ M'.2 = M8.2 ∧ (∀ side c, side < 8 → c < y * w → M'.1 (p + 7) (side * 25 + c) = nI (qF w h side c))) h ?_ ?_ 0 M8 (Nat.zero_le _) ⟨jsame.rf, rfl, fun side c _ hc => absurd hc (by omega)⟩
  · rintro M' ⟨g1, g2, g3⟩
    refine b_X5_begin_60 a0 ?_
    rw [(g1 p (by omega)).1, w1]
    refine pk_le h h (fun _ => fin M' g1 g2 (fun side c hs hc => g3 side c hs (by rw [Nat.mul_comm]; exact hc))) (fun c => absurd c (by omega))
  · rintro y M' hy ⟨g1, g2, g3⟩ ihy
    refine b_X5_begin_60 a0 ?_
    rw [(g1 p (by omega)).1, w1]
    refine pk_le h y (fun c => absurd c (by omega)) (fun _ => ?_)
    have hyw : y * w + w ≤ h * w := by rw [← Nat.succ_mul]; exact Nat.mul_le_mul_right w hy
    rw [Nat.mul_comm h w] at hyw
    refine jloop (fun a (M' : jM) => JW x tb mX5_begin (d + 1) (jV P) 71 [(0, .ref (x.2.2.2 p)), (3, .int (nI y)), (4, .int (nI a))] [] M') (fun a M' => jsame (fun q => q = p + 7) M8 M' ∧ M'.2 = M8.2 ∧ (∀ side c, side < 8 → c < y * w + a → M'.1 (p + 7) (side * 25 + c) = nI (qF w h side c))) w ?_ ?_ 0 M' (Nat.zero_le _) ⟨g1, g2, g3⟩
    · rintro M2 ⟨k1, k2, k3⟩
      refine b_X5_begin_71 a0 ?_
      rw [(k1 p (by omega)).1, w0]
      refine pk_le w w (fun _ => ?_) (fun c => absurd c (by omega))
      rw [nI_1]
      exact ihy M2 ⟨k1, k2, fun side c hs hc => k3 side c hs (by rw [Nat.succ_mul] at hc; exact hc)⟩
    · rintro a M2 ha ⟨k1, k2, k3⟩ iha
      refine b_X5_begin_71 a0 ?_
      rw [(k1 p (by omega)).1, w0]
      refine pk_le w a (fun c => absurd c (by omega)) (fun _ => ?_)
      refine jloop (fun s (M' : jM) => JW x tb mX5_begin (d + 1) (jV P) 83 [(0, .ref (x.2.2.2 p)), (3, .int (nI y)), (4, .int (nI a)), (5, .int (nI s))] [] M') (fun s M' => jsame (fun q => q = p + 7) M8 M' ∧ M'.2 = M8.2 ∧ (∀ side c, side < 8 → c < y * w + a → M'.1 (p + 7) (side * 25 + c) = nI (qF w h side c)) ∧ ∀ side, side < s → M'.1 (p + 7) (side * 25 + (y * w + a)) = nI (qF w h side (y * w + a))) 8 ?_ ?_ 0 M2 (Nat.zero_le _) ⟨k1, k2, k3, fun side hs => absurd hs (Nat.not_lt_zero _)⟩
      · rintro M3 ⟨t1, t2, t3, t4⟩
        refine b_X5_begin_83 a0 (pk_le 8 8 (fun _ => ?_) (fun c => absurd c (by omega)))
        rw [nI_1]
        refine iha M3 ⟨t1, t2, fun side c hs hc => ?_⟩
        rcases Nat.lt_or_ge c (y * w + a) with q | q
        · exact t3 side c hs q
        · obtain rfl : c = y * w + a := by omega
          exact t4 side hs
      · rintro s M3 hs ⟨t1, t2, t3, t4⟩ ihs
        refine b_X5_begin_83 a0 (pk_le 8 s (fun c => absurd c (by omega)) (fun _ => ?_))
        have u0 : M3.1 p 0 = nI w := by rw [(t1 p (by omega)).1]; exact w0
        have u1 : M3.1 p 1 = nI h := by rw [(t1 p (by omega)).1]; exact w1
        refine k_stripOf a0 u0 u1 hs ha hy ⟨s * 25 + (y * w + a), by omega, ?_, ?_⟩
        · rw [u0, jn25, pk_mul, pk_mul, nI_add, nI_add, Nat.add_assoc]
        · rintro M4 rfl
          rw [nI_1]
          refine ihs _ ⟨t1.tr (jsame.I rfl), t2, fun side c h8 hc => ?_, fun side h8 => ?_⟩
          · rw [jrI_s, pk_un (by omega)]; exact t3 side c h8 hc
          · rw [jrI_s]
            by_cases q : side = s
            · rw [q, pk_us]
            · rw [pk_un (by omega)]; exact t4 side (by omega)
end KTR
/-- trays -/
abbrev qT : Type := Bool × Nat × Nat × (Nat → Int64)
def cTr (M : jM) (p : Nat) (t : qT) : Prop := M.1 p 0 = jb t.1 ∧ M.1 p 1 = nI t.2.1 ∧ M.1 p 2 = nI t.2.2.1 ∧ t.2.1 ≤ 3 ∧ t.2.2.1 ≤ 60 ∧ ∀ k, k < t.2.2.1 → M.2 (p + 1) k = t.2.2.2 k
theorem cTr.keep {M M' : jM} {p : Nat} {t : qT} (h : cTr M p t) (h1 : M'.1 p = M.1 p) (h2 : M'.2 (p + 1) = M.2 (p + 1)) : cTr M' p t := by
  unfold cTr
  rw [h1, h2]
  exact h
def qht (v : Int64) : Bool := decide (0 ≤ v.toInt ∧ v.toInt ≤ 99)
/-- what a row of a tray's first numbers is refused for -/
def qRs (t : qT) (m : Nat) : Nat := if t.2.2.1 < m then 4 else if qFst (fun k => !qht (t.2.2.2 k)) m < m then 5 else 0
def qpl (t : qT) (a b : Int32) : Bool := decide (0 ≤ a.toInt ∧ 0 ≤ b.toInt ∧ a.toInt + b.toInt ≤ t.2.2.1)
/-- a number of a tray as a height -/
def qtH (t : qT) (k : Nat) : Nat := min 99 (t.2.2.2 k).toInt.toNat
theorem qtH_le (t : qT) (k : Nat) : qtH t k ≤ 99 := Nat.min_le_left _ _
theorem qtH_eq {t : qT} {k : Nat} (h : qht (t.2.2.2 k) = true) : (t.2.2.2 k).toInt32 = nI (qtH t k) := by
  have h := of_decide_eq_true h
  have e : qtH t k = (t.2.2.2 k).toInt.toNat := Nat.min_eq_right (by omega)
  rw [e]
  apply Int32.toInt_inj.mp
  rw [nI_toInt (by omega), Int64.toInt_toInt32]
  rw [show (t.2.2.2 k).toInt.bmod (2 ^ 32) = (t.2.2.2 k).toInt from Int.bmod_eq_of_le (by omega) (by omega)]
  omega
section KT2
variable {x : jX} {d : Nat} {M : jM} {p : Nat} {t : qT}
theorem k_isHeight {P : jM → Bool → Prop} {v : Int64} (h : P M (qht v)) : JC x jtbC mX11_isHeight d [.long v] M (jZ P) := by
  have e : ∀ b, qht v = b → P M b := fun b hb => hb ▸ h
  have h0 : (0 : Int64).toInt = 0 := rfl
  have h9 : (99 : Int64).toInt = 99 := rfl
  refine b_X11_isHeight ⟨fun c => e _ (decide_eq_false ?_), fun c => ⟨fun c2 => e _ (decide_eq_false ?_), fun c2 => e _ (decide_eq_true ?_)⟩⟩
  · rw [Int64.lt_iff_toInt_lt] at c; omega
  · rw [Int64.lt_iff_toInt_lt] at c2; omega
  · rw [Int64.lt_iff_toInt_lt] at c c2; omega
theorem k_hasPlaces {P : jM → Bool → Prop} {tb : jT} {a b : Int32} (a0 : aX9 tb p) (ht : cTr M p t) (h : P M (qpl t a b)) : JC x tb mX9_hasPlaces d [.ref (x.2.2.2 p), .int a, .int b] M (jZ P) := by
  have e : ∀ z, qpl t a b = z → P M z := fun z hz => hz ▸ h
  have h0 : (0 : Int32).toInt = 0 := rfl
  have ha := fb_rng a
  have hb := fb_rng b
  have hl := ht.2.2.2.2.1
  refine b_X9_hasPlaces a0 ?_
  rw [ht.2.2.1]
  have e1 : (nI t.2.2.1).toInt64.toInt = t.2.2.1 := by rw [Int32.toInt_toInt64, nI_toInt (by omega)]
  have e2 : (a.toInt64 + b.toInt64).toInt = a.toInt + b.toInt := by
    rw [fb_addL] <;> rw [Int32.toInt_toInt64, Int32.toInt_toInt64] <;> omega
  refine ⟨fun c => e _ (decide_eq_false ?_), fun c => ⟨fun c2 => e _ (decide_eq_false ?_), fun c2 => ⟨fun c3 => e _ (decide_eq_false ?_), fun c3 => e _ (decide_eq_true ?_)⟩⟩⟩
  · rw [Int32.lt_iff_toInt_lt] at c; omega
  · rw [Int32.lt_iff_toInt_lt] at c2; omega
  · rw [Int64.lt_iff_toInt_lt, e1, e2] at c3; omega
  · rw [Int64.lt_iff_toInt_lt, e1, e2] at c3; rw [Int32.lt_iff_toInt_lt] at c c2; omega
theorem k_rowStatus {P : jM → Int32 → Prop} {m : Nat} (hm : m < 2 ^ 31) (a0 : aX9 jtbC p) (ht : cTr M p t) (h : P M (nI (qRs t m))) : JC x jtbC mX9_rowStatus (d + 1) [.ref (x.2.2.2 p), .int (nI m)] M (jI P) := by
  have hl := ht.2.2.2.2.1
  refine b_X9_rowStatus a0 (k_hasPlaces a0 ht ?_)
  unfold qpl
  rw [nI_toInt hm, show (0 : Int32).toInt = 0 from rfl]
  by_cases q : t.2.2.1 < m
  · rw [decide_eq_false (by omega)]
    refine ⟨fun z => (by cases z), fun _ => ?_⟩
    unfold qRs at h
    rw [if_pos q] at h
    exact h
  · rw [decide_eq_true (by omega)]
    refine ⟨fun _ => ?_, fun z => (by cases z)⟩
    unfold qRs at h
    rw [if_neg q] at h
    refine jloop (fun i (_ : Unit) => JW x jtbC mX9_rowStatus (d + 1) (jI P) 13 [(0, .ref (x.2.2.2 p)), (1, .int (nI m)), (2, .int (nI i))] [] M) (fun i _ => ∀ j, j < i → (!qht (t.2.2.2 j)) = false) m ?_ ?_ 0 () (Nat.zero_le _) (fun j hj => absurd hj (Nat.not_lt_zero _))
    · rintro _ hI
      refine b_X9_rowStatus_13 a0 (pk_le m m (fun _ => ?_) (fun c => absurd c (by omega)))
      rw [if_neg (by rw [qFst_no hI]; omega)] at h
      exact h
    · rintro i _ hi hI ih
      refine b_X9_rowStatus_13 a0 (pk_le m i (fun c => absurd c (by omega)) (fun _ => ⟨i, by omega, rfl, ?_⟩))
      rw [ht.2.2.2.2.2 i (by omega), nI_1]
      refine k_isHeight ⟨fun c => ih () (fun j hj => ?_), fun c => ?_⟩
      · rcases Nat.lt_or_ge j i with q2 | q2
        · exact hI j q2
        · obtain rfl : j = i := by omega
          rw [c]; rfl
      · have e : qFst (fun k => !qht (t.2.2.2 k)) m = i := qFst_at hI (by show (!qht (t.2.2.2 i)) = true; rw [c]; rfl) hi
        rw [e, if_pos hi] at h
        exact h
theorem qRs_0 {t : qT} {m : Nat} (h : qRs t m = 0) : m ≤ t.2.2.1 ∧ ∀ k, k < m → qht (t.2.2.2 k) = true := by
  unfold qRs at h
  by_cases q : t.2.2.1 < m
  · rw [if_pos q] at h; cases h
  · rw [if_neg q] at h
    by_cases q2 : qFst (fun k => !qht (t.2.2.2 k)) m < m
    · rw [if_pos q2] at h; cases h
    · refine ⟨by omega, fun k hk => ?_⟩
      cases z : qht (t.2.2.2 k) with
      | true => rfl
      | false =>
        exfalso
        apply q2
        have : ∀ n, k < n → qFst (fun k => !qht (t.2.2.2 k)) n < n := by
          intro n
          induction n with
          | zero => intro hn; omega
          | succ n ih =>
            intro hn
            show (if qFst _ n < n then qFst _ n else if _ then n else n + 1) < n + 1
            split
            · omega
            · rename_i c
              have : k = n := by
                rcases Nat.lt_or_ge k n with a | a
                · exact absurd (ih a) c
                · omega
              subst this
              rw [if_pos (by show (!qht (t.2.2.2 k)) = true; rw [z]; rfl)]
              omega
        exact this m hk
theorem k_copyHeights {P : jM → Prop} {from_ many o n place : Nat} (a0 : aX9 jtbC p) (ht : cTr M p t) (so : js jtbC o = (20, n)) (hn : n < 2 ^ 31) (h1 : from_ + many ≤ t.2.2.1) (h2 : place + many ≤ n) (hH : ∀ k, k < many → qht (t.2.2.2 (from_ + k)) = true)
    (h : ∀ M', jsame (fun q => q = o) M M' → M'.2 = M.2 → (∀ k, k < many → M'.1 o (place + k) = nI (qtH t (from_ + k))) → (∀ k, (k < place ∨ place + many ≤ k) → M'.1 o k = M.1 o k) → P M') : JC x jtbC mX9_copyHeights d [.ref (x.2.2.2 p), .int (nI from_), .int (nI many), .ref (x.2.2.2 o), .int (nI place)] M (jV P) := by
  have hl := ht.2.2.2.2.1
  refine b_X9_copyHeights ?_
  refine jloop (fun i (M' : jM) => JW x jtbC mX9_copyHeights d (jV P) 3 [(0, .ref (x.2.2.2 p)), (1, .int (nI from_)), (2, .int (nI many)), (3, .ref (x.2.2.2 o)), (4, .int (nI place)), (5, .int (nI i))] [] M') (fun i M' => jsame (fun q => q = o) M M' ∧ M'.2 = M.2 ∧ (∀ k, k < i → M'.1 o (place + k) = nI (qtH t (from_ + k))) ∧ (∀ k, (k < place ∨ place + i ≤ k) → M'.1 o k = M.1 o k)) many ?_ ?_ 0 M (Nat.zero_le _) ⟨jsame.rf, rfl, fun k hk => absurd hk (Nat.not_lt_zero _), fun _ _ => rfl⟩
  · rintro M' ⟨g1, g2, g3, g4⟩
    exact b_X9_copyHeights_3 a0 so hn (pk_le many many (fun _ => h M' g1 g2 g3 g4) (fun c => absurd c (by omega)))
  · rintro i M' hi ⟨g1, g2, g3, g4⟩ ih
    refine b_X9_copyHeights_3 a0 so hn (pk_le many i (fun c => absurd c (by omega)) (fun _ => ⟨from_ + i, by omega, nI_add _ _, place + i, by omega, nI_add _ _, ?_⟩))
    rintro M2 rfl
    rw [g2, ht.2.2.2.2.2 _ (by omega), qtH_eq (hH i hi), nI_1]
    refine ih _ ⟨g1.tr (jsame.I rfl), g2, fun k hk => ?_, fun k hk => ?_⟩
    · rw [jrI_s]
      by_cases q : k = i
      · rw [q, pk_us]
      · rw [pk_un (by omega)]; exact g3 k (by omega)
    · rw [jrI_s, pk_un (by omega)]; exact g4 k (by omega)
end KT2
