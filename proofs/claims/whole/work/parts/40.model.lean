/-! the model's plain, read off its row c (a block of it) -/
def mPl (c : Nat → Int32) (pl : qP) : Prop := c 0 = nI (qw pl) ∧ c 1 = nI (qh pl) ∧ c 2 = nI (qn pl) ∧ (∀ k, k < 25 → c (3 + k) = nI (qMost pl k)) ∧ (∀ k, k < 25 → c (28 + k) = nI (qLeast pl k)) ∧ (∀ k, k < 25 → c (53 + k) = nI (qPrice pl k)) ∧ (∀ v, v < qn pl → c (78 + v) = nI (qSide pl v)) ∧ (∀ v, v < qn pl → c (84 + v) = jb ((qk pl).testBit v)) ∧ (∀ v s, v < qn pl → (qk pl).testBit v = true → s < qSt pl v → c (90 + (v * 9 + s)) = nI (qLine pl v s)) ∧ qWf pl
section MPL
variable {c : Nat → Int32} {pl : qP}
theorem mPl.w (h : mPl c pl) : c 0 = nI (qw pl) := h.1
theorem mPl.h (h : mPl c pl) : c 1 = nI (qh pl) := h.2.1
theorem mPl.n (h : mPl c pl) : c 2 = nI (qn pl) := h.2.2.1
theorem mPl.most (h : mPl c pl) {k : Nat} (hk : k < 25) : c (3 + k) = nI (qMost pl k) := h.2.2.2.1 k hk
theorem mPl.least (h : mPl c pl) {k : Nat} (hk : k < 25) : c (28 + k) = nI (qLeast pl k) := h.2.2.2.2.1 k hk
theorem mPl.price (h : mPl c pl) {k : Nat} (hk : k < 25) : c (53 + k) = nI (qPrice pl k) := h.2.2.2.2.2.1 k hk
theorem mPl.side (h : mPl c pl) {v : Nat} (hv : v < qn pl) : c (78 + v) = nI (qSide pl v) := h.2.2.2.2.2.2.1 v hv
theorem mPl.has (h : mPl c pl) {v : Nat} (hv : v < qn pl) : c (84 + v) = jb ((qk pl).testBit v) := h.2.2.2.2.2.2.2.1 v hv
theorem mPl.line (h : mPl c pl) {v s : Nat} (hv : v < qn pl) (hk : (qk pl).testBit v = true) (hs : s < qSt pl v) : c (90 + (v * 9 + s)) = nI (qLine pl v s) := h.2.2.2.2.2.2.2.2.1 v s hv hk hs
theorem mPl.wf (h : mPl c pl) : qWf pl := h.2.2.2.2.2.2.2.2.2
end MPL
def mTn (c : Nat → Int32) (pl : qP) (f : Nat → Nat) : Prop := (∀ k, k < qc pl → c (144 + k) = nI (f k)) ∧ ∀ k, f k ≤ 99
theorem nI_m1L {n : Nat} (h : n < 2 ^ 30) : (nI n - 1).toInt64.toInt = (n : Int) - 1 := by
  rw [Int32.toInt_toInt64, jn1, pk_sub_toInt h (by omega)]
  rfl
section KMO
variable {x : jX} {d : Nat} {M : jM} {pl : qP}
theorem k_mIsIn {P : jM → Bool → Prop} {a b c : Int64} (h : P M (decide (b.toInt ≤ a.toInt ∧ a.toInt ≤ c.toInt))) : JC x jtbM mX12_isIn d [.long a, .long b, .long c] M (jZ P) := by
  have e : ∀ z, decide (b.toInt ≤ a.toInt ∧ a.toInt ≤ c.toInt) = z → P M z := fun z hz => hz ▸ h
  refine b_X12_isIn ⟨fun q => e _ (decide_eq_false ?_), fun q => ⟨fun q2 => e _ (decide_eq_false ?_), fun q2 => e _ (decide_eq_true ?_)⟩⟩
  · rw [Int64.lt_iff_toInt_lt] at q; omega
  · rw [Int64.lt_iff_toInt_lt] at q2; omega
  · rw [Int64.lt_iff_toInt_lt] at q q2; omega
/-- isIn(a, 0, n - 1) -/
theorem k_mIsInN {P : jM → Bool → Prop} {a : Int32} {n : Nat} (hn : n < 2 ^ 30) (h : P M (qin a n)) : JC x jtbM mX12_isIn d [.long a.toInt64, .long (0 : Int64), .long (nI n - 1).toInt64] M (jZ P) := by
  refine k_mIsIn ?_
  rw [nI_m1L hn, Int32.toInt_toInt64, show (0 : Int64).toInt = 0 from rfl]
  have : decide (0 ≤ a.toInt ∧ a.toInt ≤ (n : Int) - 1) = qin a n := by
    unfold qin
    congr 1
    apply propext
    omega
  rw [this]
  exact h
theorem k_mCells {P : jM → Int32 → Prop} (hp : mPl (M.1 5) pl) (h : P M (nI (qc pl))) : JC x jtbM mX12_cells d [.ref (x.2.2.2 0)] M (jI P) := by
  refine b_X12_cells ?_
  rw [hp.w, hp.h, pk_mul]
  exact h
theorem k_mIsCell {P : jM → Bool → Prop} {a : Int32} (hp : mPl (M.1 5) pl) (h : P M (qin a (qc pl))) : JC x jtbM mX12_isCell (d + 1) [.ref (x.2.2.2 0), .int a] M (jZ P) := by
  have := hp.wf.c25
  exact b_X12_isCell (k_mCells hp (k_mIsInN (by omega) h))
theorem k_mIsVillage {P : jM → Bool → Prop} {a : Int32} (hp : mPl (M.1 5) pl) (h : P M (qin a (qn pl))) : JC x jtbM mX12_isVillage (d + 1) [.ref (x.2.2.2 0), .int a] M (jZ P) := by
  have := hp.wf.2.2.2.1
  refine b_X12_isVillage ?_
  rw [hp.n]
  exact k_mIsInN (by omega) h
theorem k_mIsSet {P : jM → Bool → Prop} {a : Int32} (hp : mPl (M.1 5) pl) (h : P M (qin a (2 ^ qn pl))) : JC x jtbM mX12_isSet (d + 1) [.ref (x.2.2.2 0), .int a] M (jZ P) := by
  have h6 := hp.wf.2.2.2.1
  refine b_X12_isSet ?_
  rw [hp.n, nI_shl1 _ (by omega)]
  exact k_mIsInN (Nat.lt_of_le_of_lt (Nat.pow_le_pow_right (by decide) h6) (by decide)) h
theorem k_mStripsOf {P : jM → Int32 → Prop} {w h side : Nat} (hs : side < 8) (hw : 1 ≤ w) (hP : P M (nI (qS w h side))) : JC x jtbM mX12_stripsOf d [.ref (x.2.2.2 0), .int (nI side), .int (nI w), .int (nI h)] M (jI P) := by
  refine b_X12_stripsOf ?_
  have e : nI w + nI h - 1 = nI (w + h - 1) := by rw [nI_add, jn1, pk_sub (by omega)]
  rw [e]
  rcases (show side = 0 ∨ side = 1 ∨ side = 2 ∨ side = 3 ∨ side = 4 ∨ side = 5 ∨ side = 6 ∨ side = 7 by omega) with rfl | rfl | rfl | rfl | rfl | rfl | rfl | rfl <;> simp only [qS] at hP <;> simp (decide := true) only [forall_const, true_and, and_true, not_true_eq_false, not_false_eq_true, false_implies, true_implies, implies_true] <;> exact hP
theorem k_mStrips {P : jM → Int32 → Prop} {v : Nat} (hp : mPl (M.1 5) pl) (hv : v < qn pl) (h : P M (nI (qSt pl v))) : JC x jtbM mX12_strips (d + 1) [.ref (x.2.2.2 0), .int (nI v)] M (jI P) := by
  have h6 := hp.wf.2.2.2.1
  obtain ⟨w1, w2, w3⟩ := qn_pos hp.wf hv
  refine b_X12_strips ⟨78 + v, by omega, by rw [jn78, nI_add], ?_⟩
  rw [hp.side hv, hp.w, hp.h]
  exact k_mStripsOf (hp.wf.2.2.2.2.2.2.2.2.2.1 v) w1 h
theorem k_mIsStrip {P : jM → Bool → Prop} {a b : Int32} (hp : mPl (M.1 5) pl) (h : P M (qin a (qn pl) && qin b (qSt pl a.toNatClampNeg))) : JC x jtbM mX12_isStrip (d + 2) [.ref (x.2.2.2 0), .int a, .int b] M (jZ P) := by
  have h6 := hp.wf.2.2.2.1
  refine b_X12_isStrip (k_mIsVillage hp ⟨fun c => ?_, fun c => ?_⟩)
  · rw [c] at h; exact h
  · rw [c, Bool.true_and] at h
    obtain ⟨v, hv, rfl⟩ := qin_t c
    rw [nI_clamp (by omega)] at h
    have h9 := qSt_le hp.wf v
    refine k_mStrips hp hv (k_mIsInN (by omega) ⟨fun z => by rw [z] at h; exact h, fun z => by rw [z] at h; exact h⟩)
theorem k_mStripOf {P : jM → Int32 → Prop} {side c : Nat} (hp : mPl (M.1 5) pl) (hs : side < 8) (hc : c < qc pl) (h : P M (nI (qF (qw pl) (qh pl) side c))) : JC x jtbM mX12_stripOf d [.ref (x.2.2.2 0), .int (nI side), .int (nI c)] M (jI P) := by
  have h25 := hp.wf.c25
  have hw : 0 < qw pl := by
    rcases Nat.eq_zero_or_pos (qw pl) with e | e
    · unfold qc at hc; rw [e, Nat.zero_mul] at hc; omega
    · exact e
  have hw5 := hp.wf.1
  have hh5 := hp.wf.2.1
  have h1 : c % qw pl < qw pl := Nat.mod_lt _ hw
  have h2 : c / qw pl < qh pl := Nat.div_lt_of_lt_mul hc
  have hne : ¬ nI (qw pl) = 0 := nI_ne0 hw (by omega)
  refine b_X12_stripOf ?_
  rw [hp.w, hp.h, pk_rem (by omega) hw (by omega), pk_div (by omega) hw (by omega)]
  refine ⟨hne, hne, ?_⟩
  have h' := h
  unfold qF at h'
  generalize c % qw pl = a at *
  generalize c / qw pl = b at *
  generalize qw pl = w at *
  generalize qh pl = g at *
  have f0 : nI w - 1 - nI a = nI (w - 1 - a) := by rw [jn1, pk_sub (by omega), pk_sub (by omega)]
  have f1 : nI w + nI g - 2 - nI a - nI b = nI ((w - 1 - a) + (g - 1 - b)) := by rw [nI_add, jn2, pk_sub (by omega), pk_sub (by omega), pk_sub (by omega)]; congr 1; omega
  have f2 : nI g - 1 - nI b = nI (g - 1 - b) := by rw [jn1, pk_sub (by omega), pk_sub (by omega)]
  have f3 : nI a - nI b + nI g - 1 = nI ((g - 1 - b) + a) := by
    have e1 : nI a - nI b + nI g = nI a + (nI g - nI b) := by rw [Int32.sub_eq_add_neg, Int32.sub_eq_add_neg, Int32.add_assoc, Int32.add_comm (-nI b)]
    rw [e1, pk_sub (by omega), nI_add, jn1, pk_sub (by omega)]
    congr 1; omega
  have f5 : nI a + nI b = nI (a + b) := nI_add _ _
  have f7 : nI (w - 1 - a) + nI b = nI ((w - 1 - a) + b) := nI_add _ _
  simp only [f0, f1, f2, f3, f5, f7]
  rcases (show side = 0 ∨ side = 1 ∨ side = 2 ∨ side = 3 ∨ side = 4 ∨ side = 5 ∨ side = 6 ∨ side = 7 by omega) with rfl | rfl | rfl | rfl | rfl | rfl | rfl | rfl <;> simp (decide := true) only [forall_const, true_and, and_true, not_true_eq_false, not_false_eq_true, false_implies, true_implies, implies_true] <;> exact h'
theorem k_mSeenFrom {P : jM → Int32 → Prop} {side s : Nat} {f : Nat → Nat} (hp : mPl (M.1 5) pl) (ht : mTn (M.1 5) pl f) (hs8 : side < 8) (hs : s < 2 ^ 31) (h : P M (nI (qG (qw pl) (qh pl) side s f (qc pl)))) : JC x jtbM mX12_seenFrom (d + 1) [.ref (x.2.2.2 0), .int (nI side), .int (nI s)] M (jI P) := by
  have h25 := hp.wf.c25
  refine b_X12_seenFrom ?_
  refine jloop (fun i (a : Int32) => JW x jtbM mX12_seenFrom (d + 1) (jI P) 5 [(0, .ref (x.2.2.2 0)), (1, .int (nI side)), (2, .int (nI s)), (3, .int a), (4, .int (nI i))] [] M) (fun i a => a = nI (qG (qw pl) (qh pl) side s f i)) (qc pl) ?_ ?_ 0 0 (Nat.zero_le _) rfl
  · rintro _ rfl
    exact b_X12_seenFrom_5 (k_mCells hp (pk_le (qc pl) (qc pl) (fun _ => h) (fun c => absurd c (by omega))))
  · rintro i _ hi rfl ih
    have hF := qF_lt hs8 hi
    have h9 := qS_le (side := side) hp.wf.1 hp.wf.2.1
    refine b_X12_seenFrom_5 (k_mCells hp (pk_le (qc pl) i (fun c => absurd c (by omega)) (fun _ => k_mStripOf hp hs8 hi ?_)))
    have ihs := ih _ rfl
    rw [nI_1]
    refine ⟨fun c => ?_, fun c => ⟨144 + i, by omega, by rw [jn144, nI_add], ?_⟩⟩
    · rw [nI_eq (by omega) hs] at c
      simpa [qG, c] using ihs
    · rw [nI_eq (by omega) hs] at c
      rw [ht.1 i hi]
      have := ht.2 i
      have := qG_le (w := qw pl) (h := qh pl) (side := side) (s := s) ht.2 i
      refine k_maxN (by omega) (by omega) ?_
      simpa [qG, c] using ihs
theorem k_mStoneNow {P : jM → Int32 → Prop} {f : Nat → Nat} (hp : mPl (M.1 5) pl) (ht : mTn (M.1 5) pl f) (h : P M (nI (qStone pl f (qc pl)))) : JC x jtbM mX12_stoneNow (d + 1) [.ref (x.2.2.2 0)] M (jI P) := by
  have h25 := hp.wf.c25
  refine b_X12_stoneNow ?_
  refine jloop (fun i (a : Int32) => JW x jtbM mX12_stoneNow (d + 1) (jI P) 4 [(0, .ref (x.2.2.2 0)), (1, .int a), (2, .int (nI i))] [] M) (fun i a => a = nI (qStone pl f i)) (qc pl) ?_ ?_ 0 0 (Nat.zero_le _) rfl
  · rintro _ rfl
    exact b_X12_stoneNow_4 (k_mCells hp (pk_le (qc pl) (qc pl) (fun _ => h) (fun c => absurd c (by omega))))
  · rintro i _ hi rfl ih
    refine b_X12_stoneNow_4 (k_mCells hp (pk_le (qc pl) i (fun c => absurd c (by omega)) (fun _ => ⟨144 + i, by omega, by rw [jn144, nI_add], 28 + i, by omega, by rw [jn28, nI_add], ?_⟩)))
    rw [ht.1 i hi, hp.least (by omega)]
    refine k_maxS (by have := ht.2 i; omega) (by have := hp.wf.2.2.2.2.2.2.2.1 i; omega) ⟨53 + i, by omega, by rw [jn53, nI_add], ?_⟩
    rw [hp.price (by omega), pk_mul, nI_add, nI_1]
    exact ih _ rfl
end KMO
