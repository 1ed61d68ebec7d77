/-! tokens of a text: bytes f, length n, from place a -/
def yL (v : Int32) : Bool := decide (97 ≤ v.toInt ∧ v.toInt ≤ 122)
def yD (v : Int32) : Bool := decide (48 ≤ v.toInt ∧ v.toInt ≤ 57)
def yB (v : Int32) : Bool := decide (v = 10 ∨ v = 32)
def yS (v : Int32) : Bool := decide (v = 59 ∨ v = 60 ∨ v = 61 ∨ v = 62)
def yRun (p : Int32 → Bool) (f : Nat → Int32) (n a : Nat) : Nat := qFst (fun k => !p (f (a + k))) (n - a)
theorem yRun_le (p : Int32 → Bool) (f : Nat → Int32) (n a : Nat) : yRun p f n a ≤ n - a := qFst_le _ _
theorem qFst_lo {p : Nat → Bool} : ∀ {n k : Nat}, k < qFst p n → p k = false := by
  intro n k h
  have le := qFst_le p n
  by_cases e : qFst p n < n
  · exact (qFst_yes e).2 k h
  · have en : qFst p n = n := by omega
    cases u : p k
    · rfl
    · exfalso
      obtain ⟨i, i1, i2, i3⟩ := fb_first (p := fun k => p k = true) (n := n) ⟨k, by omega, u⟩
      have := qFst_at (p := p) (i := i) (fun j hj => by have := i3 j hj; revert this; cases p j <;> simp) i2 i1
      omega
theorem yRun_in {p : Int32 → Bool} {f : Nat → Int32} {n a k : Nat} (h : k < yRun p f n a) : p (f (a + k)) = true := by
  have : (!p (f (a + k))) = false := qFst_lo (p := fun k => !p (f (a + k))) h
  revert this; cases p (f (a + k)) <;> simp
theorem yRun_end {p : Int32 → Bool} {f : Nat → Int32} {n a : Nat} (h : yRun p f n a < n - a) : p (f (a + yRun p f n a)) = false := by
  have : (!p (f (a + yRun p f n a))) = true := (qFst_yes (p := fun k => !p (f (a + k))) h).1
  revert this; cases p (f (a + yRun p f n a)) <;> simp
theorem yRun_pos {p : Int32 → Bool} {f : Nat → Int32} {n a : Nat} (h : a < n) (hp : p (f a) = true) : 0 < yRun p f n a := by
  rcases Nat.eq_zero_or_pos (yRun p f n a) with e | e
  · have := yRun_end (p := p) (f := f) (n := n) (a := a) (by omega)
    rw [e, Nat.add_zero, hp] at this
    cases this
  · exact e
def yP (f : Nat → Int32) (n a : Nat) : Nat := a + yRun yB f n a
def yWv (f : Nat → Int32) (a : Nat) : Nat → Nat
  | 0 => 0
  | k + 1 => yWv f a k * 32 + ((f (a + k)).toInt - 96).toNat
def yDv (f : Nat → Int32) (a : Nat) : Nat → Nat
  | 0 => 0
  | k + 1 => yDv f a k * 10 + ((f (a + k)).toInt - 48).toNat
def yLt (f : Nat → Int32) (n a : Nat) : Nat := yRun yL f n (yP f n a)
def yDt (f : Nat → Int32) (n a : Nat) : Nat := yRun yD f n (yP f n a)
def yK (f : Nat → Int32) (n a : Nat) : Nat := if n ≤ yP f n a then 0 else if yL (f (yP f n a)) then 2 else if yD (f (yP f n a)) then (if yDt f n a ≤ 4 then 3 else 1) else if yS (f (yP f n a)) then 4 else 1
def yX (f : Nat → Int32) (n a : Nat) : Nat := if n ≤ yP f n a then yP f n a else if yL (f (yP f n a)) then yP f n a + yLt f n a else if yD (f (yP f n a)) then yP f n a + yDt f n a else yP f n a + 1
def yN (f : Nat → Int32) (n a : Nat) : Nat := yDv f (yP f n a) (yDt f n a)
def yV (f : Nat → Int32) (n a : Nat) : Nat := yWv f (yP f n a) (yLt f n a)
def yG (f : Nat → Int32) (n a : Nat) : Int32 := f (yP f n a)
def yWi (V : Nat) : Nat := qFst (fun k => decide (qWl.getD k 0 = V)) 26
def yI (f : Nat → Int32) (n a : Nat) : Nat := if yK f n a = 2 ∧ yLt f n a ≤ 8 then yWi (yV f n a) else 26
def yWx (i : Nat) : Int32 := if i < 26 then nI i else -1
section YTK
variable {f : Nat → Int32} {n a : Nat}
theorem yP_le (h : a ≤ n) : yP f n a ≤ n := by have := yRun_le yB f n a; unfold yP; omega
theorem yP_ge : a ≤ yP f n a := Nat.le_add_right _ _
theorem yX_le (h : a ≤ n) : yX f n a ≤ n := by
  have p := yP_le (f := f) h
  have l : yLt f n a ≤ n - yP f n a := yRun_le _ _ _ _
  have d : yDt f n a ≤ n - yP f n a := yRun_le _ _ _ _
  unfold yX
  split
  · exact p
  · split
    · omega
    · split
      · omega
      · omega
theorem yX_gt (h : ¬ yK f n a = 0) : yP f n a < n ∧ yP f n a < yX f n a := by
  unfold yK at h
  unfold yX
  by_cases q : n ≤ yP f n a
  · rw [if_pos q] at h; exact absurd rfl h
  · rw [if_neg q]
    refine ⟨by omega, ?_⟩
    by_cases l : yL (f (yP f n a)) = true
    · rw [if_pos l]
      have : 0 < yLt f n a := yRun_pos (by omega) l
      omega
    · rw [if_neg l]
      by_cases d : yD (f (yP f n a)) = true
      · rw [if_pos d]
        have : 0 < yDt f n a := yRun_pos (by omega) d
        omega
      · rw [if_neg d]; omega
theorem yK_le : yK f n a ≤ 4 := by
  unfold yK
  split
  · omega
  · split
    · omega
    · split
      · split <;> omega
      · split <;> omega
theorem yWi_le (V : Nat) : yWi V ≤ 26 := qFst_le _ _
theorem yI_le : yI f n a ≤ 26 := by
  unfold yI
  split
  · exact yWi_le _
  · omega
theorem yI_word (h : yI f n a < 26) : yK f n a = 2 ∧ yLt f n a ≤ 8 ∧ qWl.getD (yI f n a) 0 = yV f n a := by
  unfold yI at h ⊢
  by_cases q : yK f n a = 2 ∧ yLt f n a ≤ 8
  · rw [if_pos q] at h ⊢
    exact ⟨q.1, q.2, of_decide_eq_true (qFst_yes h).1⟩
  · rw [if_neg q] at h; omega
theorem yL_code {v : Int32} (h : yL v = true) : ∃ c, 1 ≤ c ∧ c ≤ 26 ∧ (v.toInt - 96).toNat = c ∧ v = nI (96 + c) := by
  have h1 := of_decide_eq_true h
  refine ⟨(v.toInt - 96).toNat, by omega, by omega, rfl, ?_⟩
  apply Int32.toInt_inj.mp
  rw [nI_toInt (by omega)]
  omega
theorem yD_code {v : Int32} (h : yD v = true) : ∃ c, c ≤ 9 ∧ (v.toInt - 48).toNat = c ∧ v = nI (48 + c) := by
  have h1 := of_decide_eq_true h
  refine ⟨(v.toInt - 48).toNat, by omega, rfl, ?_⟩
  apply Int32.toInt_inj.mp
  rw [nI_toInt (by omega)]
  omega
theorem yWv_lt {q : Nat} : ∀ {k : Nat}, (∀ i, i < k → yL (f (q + i)) = true) → yWv f q k < 32 ^ k
  | 0, _ => Nat.zero_lt_one
  | k + 1, h => by
    have ih := yWv_lt (q := q) (k := k) (fun i hi => h i (by omega))
    obtain ⟨c, c1, c2, c3, _⟩ := yL_code (h k (by omega))
    rw [yWv, c3, Nat.pow_succ]
    omega
theorem yDv_lt {q : Nat} : ∀ {k : Nat}, (∀ i, i < k → yD (f (q + i)) = true) → yDv f q k < 10 ^ k
  | 0, _ => Nat.zero_lt_one
  | k + 1, h => by
    have ih := yDv_lt (q := q) (k := k) (fun i hi => h i (by omega))
    obtain ⟨c, c1, c2, _⟩ := yD_code (h k (by omega))
    rw [yDv, c2, Nat.pow_succ]
    omega
theorem yV_lt (h : yLt f n a ≤ 8) : yV f n a < 2 ^ 40 := by
  have h1 := yWv_lt (f := f) (q := yP f n a) (k := yLt f n a) (fun i hi => yRun_in hi)
  have : 32 ^ yLt f n a ≤ 32 ^ 8 := Nat.pow_le_pow_right (by decide) h
  have : (32 : Nat) ^ 8 = 2 ^ 40 := by decide
  unfold yV
  omega
theorem yN_lt (h : yK f n a = 3) : yN f n a < 10000 := by
  have h1 := yDv_lt (f := f) (q := yP f n a) (k := yDt f n a) (fun i hi => yRun_in hi)
  have d4 : yDt f n a ≤ 4 := by
    unfold yK at h
    revert h
    split
    · intro h; omega
    · split
      · intro h; omega
      · split
        · split
          · intro _; assumption
          · intro h; omega
        · split <;> intro h <;> omega
  have : 10 ^ yDt f n a ≤ 10 ^ 4 := Nat.pow_le_pow_right (by decide) d4
  have : (10 : Nat) ^ 4 = 10000 := by decide
  unfold yN
  omega
theorem yWl_lt : ∀ k, k < 26 → qWl.getD k 0 < 2 ^ 40 := by decide +kernel
theorem yWl_inj : ∀ i, i < 26 → ∀ j, j < 26 → qWl.getD i 0 = qWl.getD j 0 → i = j := by decide +kernel
theorem yWi_at {V k : Nat} (hk : k < 26) (h : qWl.getD k 0 = V) : yWi V = k := by
  unfold yWi
  refine qFst_at (p := fun k => decide (qWl.getD k 0 = V)) (i := k) (fun j hj => ?_) (decide_eq_true h) hk
  refine decide_eq_false (fun e => ?_)
  have := yWl_inj j (Nat.lt_trans hj hk) k hk (e.trans h.symm)
  omega
end YTK
/-- the class's reader at p stands at the token that begins behind a -/
def cRd (M : jM) (p : Nat) (f : Nat → Int32) (n a : Nat) : Prop := M.1 p 9 = nI 2 ∧ M.1 p 10 = nI n ∧ M.1 p 11 = nI (yX f n a) ∧ M.1 p 12 = nI (yP f n a) ∧ M.1 p 0 = nI (yK f n a) ∧ M.1 p 3 = yWx (yI f n a) ∧ (yK f n a = 3 → M.1 p 1 = nI (yN f n a)) ∧ (yK f n a = 4 → M.1 p 2 = yG f n a) ∧ (yK f n a = 2 → M.2 p 4 = lN (yV f n a) ∧ M.1 p 13 = nI (yLt f n a))
def cTx (M : jM) (p : Nat) (f : Nat → Int32) (n : Nat) : Prop := n ≤ 900 ∧ (∀ k, k < n → M.1 2 k = f k) ∧ (∀ k, k < 26 → M.2 (p + 1) k = qWord k) ∧ (p = 13 ∨ p = 25)
section YRD
variable {x : jX} {d : Nat} {M : jM} {p : Nat} {f : Nat → Int32} {n : Nat}
theorem aX7_at (h : p = 13 ∨ p = 25) : aX7 jtbC p := by
  rcases h with rfl | rfl
  · exact atC7_13
  · exact atC7_25
theorem yL_br {v : Int32} {A B : Prop} (h1 : yL v = false → A) (h2 : yL v = true → B) : (v < 97 → A) ∧ (¬ v < 97 → (122 < v → A) ∧ (¬ 122 < v → B)) := by
  have e97 : (97 : Int32).toInt = 97 := by decide
  have e122 : (122 : Int32).toInt = 122 := by decide
  rw [Int32.lt_iff_toInt_lt, Int32.lt_iff_toInt_lt, e97, e122]
  exact ⟨fun c => h1 (decide_eq_false (by omega)), fun c => ⟨fun c2 => h1 (decide_eq_false (by omega)), fun c2 => h2 (decide_eq_true (by omega))⟩⟩
theorem yD_br {v : Int32} {A B : Prop} (h1 : yD v = false → A) (h2 : yD v = true → B) : (v < 48 → A) ∧ (¬ v < 48 → (57 < v → A) ∧ (¬ 57 < v → B)) := by
  have e97 : (48 : Int32).toInt = 48 := by decide
  have e122 : (57 : Int32).toInt = 57 := by decide
  rw [Int32.lt_iff_toInt_lt, Int32.lt_iff_toInt_lt, e97, e122]
  exact ⟨fun c => h1 (decide_eq_false (by omega)), fun c => ⟨fun c2 => h1 (decide_eq_false (by omega)), fun c2 => h2 (decide_eq_true (by omega))⟩⟩
theorem k_readWord {P : jM → Prop} {q : Nat} (ht : cTx M p f n) (h9 : M.1 p 9 = nI 2) (h10 : M.1 p 10 = nI n) (h11 : M.1 p 11 = nI q) (hq : q ≤ n) (h3 : M.1 p 3 = -1) (h : ∀ M', jsame (fun r => r = p) M M' → (∀ k, k ≠ 0 → k ≠ 3 → k ≠ 11 → k ≠ 13 → M'.1 p k = M.1 p k) → M'.1 p 0 = 2 → M'.1 p 11 = nI (q + yRun yL f n q) → M'.1 p 13 = nI (yRun yL f n q) → M'.2 p 4 = lN (yWv f q (yRun yL f n q)) → M'.1 p 3 = yWx (if yRun yL f n q ≤ 8 then yWi (yWv f q (yRun yL f n q)) else 26) → P M') : JC x jtbC mX7_readWord d [.ref (x.2.2.2 p)] M (jV P) := by
  obtain ⟨n9, tx, wd, pp⟩ := ht
  have a0 := aX7_at pp
  have np : (2 : Nat) ≠ p := by omega
  refine b_X7_readWord a0 ?_
  intro M1 e1 M2 e2 M3 e3
  generalize hR : yRun yL f n q = R at *
  have Rle : R ≤ n - q := by rw [← hR]; exact yRun_le _ _ _ _
  refine jloop (fun i (M4 : jM) => JW x jtbC mX7_readWord d (jV P) 15 [(0, .ref (x.2.2.2 p))] [] M4) (fun i M4 => jsame (fun r => r = p) M M4 ∧ (∀ k, k ≠ 0 → k ≠ 11 → k ≠ 13 → M4.1 p k = M.1 p k) ∧ M4.1 p 0 = 2 ∧ M4.1 p 11 = nI (q + i) ∧ M4.1 p 13 = nI i ∧ M4.2 p 4 = lN (yWv f q i)) R ?_ ?_ 0 M3 (Nat.zero_le _) ⟨?_, ?_, ?_, ?_, ?_, ?_⟩
  · rintro M4 ⟨g1, g2, g3, g4, g5, g6⟩
    have tx4 : ∀ k, k < n → M4.1 2 k = f k := fun k hk => by rw [(g1 2 np).1]; exact tx k hk
    have wd4 : ∀ k, k < 26 → M4.2 (p + 1) k = qWord k := fun k hk => by rw [(g1 (p + 1) (by omega)).2]; exact wd k hk
    -- behind the letters
    have rest : JW x jtbC mX7_readWord d (jV P) 105 [(0, .ref (x.2.2.2 p)), (1, .int (0 : Int32))] [] M4 := by
      rcases Nat.lt_or_ge 8 R with big | small
      · have fin : P M4 := h M4 g1 (fun k k0 _ k11 k13 => g2 k k0 k11 k13) g3 g4 g5 g6 (by rw [if_neg (by omega), g2 3 (by omega) (by omega) (by omega), h3]; rfl)
        refine b_X7_readWord_105 a0 ⟨fun _ => fin, fun _ => ⟨fun _ => fin, fun c => absurd ?_ c⟩⟩
        rw [g5]; exact nI_lt (a := 8) big (by omega)
      · have V40 : yWv f q R < 2 ^ 40 := by
          have u1 := yWv_lt (f := f) (q := q) (k := R) (fun i hi => yRun_in (n := n) (by rw [hR]; exact hi))
          have : 32 ^ R ≤ 32 ^ 8 := Nat.pow_le_pow_right (by decide) small
          have : (32 : Nat) ^ 8 = 2 ^ 40 := by decide
          omega
        have Wle := yWi_le (yWv f q R)
        refine jloop (fun k (M5 : jM) => JW x jtbC mX7_readWord d (jV P) 105 [(0, .ref (x.2.2.2 p)), (1, .int (nI k))] [] M5) (fun k M5 => jsame (fun r => r = p) M4 M5 ∧ (∀ j, j ≠ 3 → M5.1 p j = M4.1 p j) ∧ M5.2 = M4.2 ∧ M5.1 p 3 = if yWi (yWv f q R) < k then nI (yWi (yWv f q R)) else -1) 26 ?_ ?_ 0 M4 (Nat.zero_le _) ⟨jsame.rf, fun _ _ => rfl, rfl, by rw [if_neg (Nat.not_lt_zero _), g2 3 (by omega) (by omega) (by omega)]; exact h3⟩
        · rintro M5 ⟨t1, t2, t3, t4⟩
          refine b_X7_readWord_105 a0 (pk_le 26 26 (fun _ => ?_) (fun c => absurd c (by omega)))
          refine h M5 (g1.tr t1) (fun k k0 k3 k11 k13 => by rw [t2 k k3]; exact g2 k k0 k11 k13) (by rw [t2 0 (by omega)]; exact g3) (by rw [t2 11 (by omega)]; exact g4) (by rw [t2 13 (by omega)]; exact g5) (by rw [t3]; exact g6) ?_
          rw [t4, if_pos small]; rfl
        · rintro k M5 hk ⟨t1, t2, t3, t4⟩ ih
          refine b_X7_readWord_105 a0 (pk_le 26 k (fun c => absurd c (by omega)) (fun _ => ⟨fun c => ?_, fun _ => ⟨k, by omega, rfl, ?_⟩⟩))
          · rw [t2 13 (by omega), g5] at c
            exact absurd c (nI_nlt (b := R) (a := 8) small (by omega))
          · rw [t3, wd4 k hk, g6, nI_1]
            have wl := yWl_lt k hk
            rw [show qWord k = lN (qWl.getD k 0) from rfl, pk_lEQ (by omega) (by omega)]
            refine ⟨fun ne => ih M5 ⟨t1, t2, t3, ?_⟩, fun eq M6 e6 => ih M6 ⟨by rw [e6]; exact t1.tr (jsame.I rfl), fun j hj => by rw [e6, jrI_s, pk_un hj]; exact t2 j hj, by rw [e6]; exact t3, ?_⟩⟩
            · rw [t4]
              by_cases u : yWi (yWv f q R) < k
              · rw [if_pos u, if_pos (by omega)]
              · rw [if_neg u, if_neg (fun v => ?_)]
                have e : yWi (yWv f q R) = k := by omega
                have := (qFst_yes (p := fun k => decide (qWl.getD k 0 = yWv f q R)) (n := 26) (show yWi (yWv f q R) < 26 by omega)).1
                have t : decide (qWl.getD (yWi (yWv f q R)) 0 = yWv f q R) = true := this
                rw [e] at t
                exact ne (of_decide_eq_true t)
            · rw [e6, jrI_s, pk_us, yWi_at hk eq, if_pos (Nat.lt_succ_self k)]
    refine b_X7_readWord_15 a0 ?_
    rw [g2 10 (by omega) (by omega) (by omega), h10, g4]
    refine pk_le n (q + R) (fun _ => rest) (fun c => ⟨2, by rw [g2 9 (by omega) (by omega) (by omega)]; exact h9, by omega, sC_2, q + R, by omega, rfl, ?_⟩)
    rw [tx4 (q + R) (by omega)]
    have no : yL (f (q + R)) = false := by
      have := yRun_end (p := yL) (f := f) (n := n) (a := q) (by rw [hR]; omega)
      rw [hR] at this
      exact this
    have br := yL_br (v := f (q + R)) (A := JW x jtbC mX7_readWord d (jV P) 105 [(0, .ref (x.2.2.2 p)), (1, .int (0 : Int32))] [] M4) (B := False) (fun _ => rest) (fun u => by rw [no] at u; cases u)
    refine ⟨br.1, fun c2 => ⟨2, by rw [g2 9 (by omega) (by omega) (by omega)]; exact h9, by omega, sC_2, ?_⟩⟩
    rw [tx4 (q + R) (by omega)]
    exact ⟨(br.2 c2).1, fun c3 => ((br.2 c2).2 c3).elim⟩
  · rintro i M4 hi ⟨g1, g2, g3, g4, g5, g6⟩ ih
    have tx4 : ∀ k, k < n → M4.1 2 k = f k := fun k hk => by rw [(g1 2 np).1]; exact tx k hk
    have yes : yL (f (q + i)) = true := yRun_in (n := n) (by rw [hR]; exact hi)
    obtain ⟨c, c1, c2, c3, c4⟩ := yL_code yes
    refine b_X7_readWord_15 a0 ?_
    rw [g2 10 (by omega) (by omega) (by omega), h10, g4]
    refine pk_le n (q + i) (fun c => absurd c (by omega)) (fun _ => ⟨2, by rw [g2 9 (by omega) (by omega) (by omega)]; exact h9, by omega, sC_2, q + i, by omega, rfl, ?_⟩)
    rw [tx4 (q + i) (by omega)]
    have br := yL_br (v := f (q + i)) (A := False) (B := True) (fun u => by rw [yes] at u; cases u) (fun _ => trivial)
    refine ⟨fun c => (br.1 c).elim, fun c2 => ⟨2, by rw [g2 9 (by omega) (by omega) (by omega)]; exact h9, by omega, sC_2, ?_⟩⟩
    rw [tx4 (q + i) (by omega)]
    refine ⟨fun c3 => ((br.2 c2).1 c3).elim, fun _ => ?_⟩
    intro M5 e5
    refine ⟨2, by rw [e5, jrI_s, pk_un (by omega), g2 9 (by omega) (by omega) (by omega)]; exact h9, by omega, sC_2, q + i, by omega, by rw [e5, jrI_s, pk_un (by omega)]; exact g4, ?_⟩
    intro M6 e6 M7 e7
    have v5 : M5.1 2 (q + i) = nI (96 + c) := by rw [e5, jrI_n np, tx4 (q + i) (by omega)]; exact c4
    have l5 : M5.2 p 4 = lN (yWv f q i) := by rw [e5]; exact g6
    refine ih M7 ⟨?_, fun k k0 k11 k13 => ?_, ?_, ?_, ?_, ?_⟩
    · rw [e7, e6, e5]
      exact ((g1.tr (jsame.I rfl)).tr (jsame.L rfl)).tr (jsame.I rfl)
    · rw [e7, jrI_s, pk_un k11, e6]
      show M5.1 p k = _
      rw [e5, jrI_s, pk_un k13]; exact g2 k k0 k11 k13
    · rw [e7, jrI_s, pk_un (by omega), e6]
      show M5.1 p 0 = _
      rw [e5, jrI_s, pk_un (by omega)]; exact g3
    · rw [e7, jrI_s, pk_us, e6]
      show M5.1 p 11 + 1 = _
      rw [e5, jrI_s, pk_un (by omega), g4, nI_1]; rfl
    · rw [e7, jrI_s, pk_un (by omega), e6]
      show M5.1 p 13 = _
      rw [e5, jrI_s, pk_us, g5, nI_1]
    · rw [e7]
      show M6.2 p 4 = _
      rw [e6, jrL_s, pk_uLs, v5, l5, show (97 : Int32) = nI 97 from rfl]
      have small : (nI (96 + c) - nI 97 + (1 : Int32)).toInt64 = lN c := by
        rw [show nI (96 + c) - nI 97 = nI (c - 1) by rw [pk_sub (by omega)]; congr 1; omega, show nI (c - 1) + (1 : Int32) = nI c by rw [nI_1]; congr 1; omega, nI_l (by omega)]
      rw [small, lN_shl (k := 5) rfl, Nat.mul_comm _ (2 ^ 5), fb_or_sumL _ (by omega), yWv, c3, Nat.mul_comm (2 ^ 5)]
  · rw [e3, e2, e1]
    exact ((jsame.I (S := fun r => r = p) rfl).tr (jsame.I rfl)).tr (jsame.L rfl)
  · intro k k0 k11 k13
    rw [e3]
    show M2.1 p k = _
    rw [e2, jrI_s, pk_un k13, e1, jrI_s, pk_un k0]
  · rw [e3]
    show M2.1 p 0 = _
    rw [e2, jrI_s, pk_un (by omega), e1, jrI_s, pk_us]
  · rw [e3]
    show M2.1 p 11 = _
    rw [e2, jrI_s, pk_un (by omega), e1, jrI_s, pk_un (by omega)]; exact h11
  · rw [e3]
    show M2.1 p 13 = _
    rw [e2, jrI_s, pk_us]; rfl
  · rw [e3, jrL_s, pk_uLs]; rfl
theorem k_readDigits {P : jM → Prop} {q : Nat} (ht : cTx M p f n) (h9 : M.1 p 9 = nI 2) (h10 : M.1 p 10 = nI n) (h11 : M.1 p 11 = nI q) (hq : q ≤ n) (h : ∀ M', jsame (fun r => r = p) M M' → M'.2 = M.2 → (∀ k, k ≠ 0 → k ≠ 1 → k ≠ 11 → M'.1 p k = M.1 p k) → M'.1 p 0 = (if yRun yD f n q ≤ 4 then 3 else 1) → M'.1 p 11 = nI (q + yRun yD f n q) → M'.1 p 1 = nI (yDv f q (yRun yD f n q)) → P M') : JC x jtbC mX7_readDigits d [.ref (x.2.2.2 p)] M (jV P) := by
  obtain ⟨n9, tx, wd, pp⟩ := ht
  have a0 := aX7_at pp
  have np : (2 : Nat) ≠ p := by omega
  refine b_X7_readDigits a0 ?_
  intro M1 e1
  generalize hR : yRun yD f n q = R at *
  have Rle : R ≤ n - q := by rw [← hR]; exact yRun_le _ _ _ _
  refine jloop (fun i (M4 : jM) => JW x jtbC mX7_readDigits d (jV P) 7 [(0, .ref (x.2.2.2 p)), (1, .int (nI i))] [] M4) (fun i M4 => jsame (fun r => r = p) M M4 ∧ M4.2 = M.2 ∧ (∀ k, k ≠ 1 → k ≠ 11 → M4.1 p k = M.1 p k) ∧ M4.1 p 11 = nI (q + i) ∧ M4.1 p 1 = nI (yDv f q i)) R ?_ ?_ 0 M1 (Nat.zero_le _) ⟨by rw [e1]; exact jsame.I rfl, by rw [e1]; rfl, fun k k1 _ => by rw [e1, jrI_s, pk_un k1], by rw [e1, jrI_s, pk_un (by omega)]; exact h11, by rw [e1, jrI_s, pk_us]; rfl⟩
  · rintro M4 ⟨g1, g2, g3, g4, g5⟩
    have tx4 : ∀ k, k < n → M4.1 2 k = f k := fun k hk => by rw [(g1 2 np).1]; exact tx k hk
    have fin : ∀ M5, M5 = jrI M4 p (upd (M4.1 p) 0 (if R ≤ 4 then 3 else 1)) → P M5 := fun M5 e5 => by
      refine h M5 (by rw [e5]; exact g1.tr (jsame.I rfl)) (by rw [e5]; exact g2) (fun k k0 k1 k11 => by rw [e5, jrI_s, pk_un k0]; exact g3 k k1 k11) (by rw [e5, jrI_s, pk_us]) (by rw [e5, jrI_s, pk_un (by omega)]; exact g4) (by rw [e5, jrI_s, pk_un (by omega)]; exact g5)
    have rest : JW x jtbC mX7_readDigits d (jV P) 86 [(0, .ref (x.2.2.2 p)), (1, .int (nI R))] [] M4 := by
      refine b_X7_readDigits_86 a0 (pk_lt 4 R (fun c => ?_) (fun c => ?_))
      · rw [if_neg (by omega)] at fin; exact fin
      · rw [if_pos c] at fin; exact fin
    refine b_X7_readDigits_7 a0 ?_
    rw [g3 10 (by omega) (by omega), h10, g4]
    refine pk_le n (q + R) (fun _ => rest) (fun c => ⟨2, by rw [g3 9 (by omega) (by omega)]; exact h9, by omega, sC_2, q + R, by omega, rfl, ?_⟩)
    rw [tx4 (q + R) (by omega)]
    have no : yD (f (q + R)) = false := by
      have := yRun_end (p := yD) (f := f) (n := n) (a := q) (by rw [hR]; omega)
      rw [hR] at this
      exact this
    have br := yD_br (v := f (q + R)) (A := JW x jtbC mX7_readDigits d (jV P) 86 [(0, .ref (x.2.2.2 p)), (1, .int (nI R))] [] M4) (B := False) (fun _ => rest) (fun u => by rw [no] at u; cases u)
    refine ⟨br.1, fun c2 => ⟨2, by rw [g3 9 (by omega) (by omega)]; exact h9, by omega, sC_2, ?_⟩⟩
    rw [tx4 (q + R) (by omega)]
    exact ⟨(br.2 c2).1, fun c3 => ((br.2 c2).2 c3).elim⟩
  · rintro i M4 hi ⟨g1, g2, g3, g4, g5⟩ ih
    have tx4 : ∀ k, k < n → M4.1 2 k = f k := fun k hk => by rw [(g1 2 np).1]; exact tx k hk
    have yes : yD (f (q + i)) = true := yRun_in (n := n) (by rw [hR]; exact hi)
    obtain ⟨c, c2, c3, c4⟩ := yD_code yes
    refine b_X7_readDigits_7 a0 ?_
    rw [g3 10 (by omega) (by omega), h10, g4]
    refine pk_le n (q + i) (fun c => absurd c (by omega)) (fun _ => ⟨2, by rw [g3 9 (by omega) (by omega)]; exact h9, by omega, sC_2, q + i, by omega, rfl, ?_⟩)
    rw [tx4 (q + i) (by omega)]
    have br := yD_br (v := f (q + i)) (A := False) (B := True) (fun u => by rw [yes] at u; cases u) (fun _ => trivial)
    refine ⟨fun c => (br.1 c).elim, fun c2 => ⟨2, by rw [g3 9 (by omega) (by omega)]; exact h9, by omega, sC_2, ?_⟩⟩
    rw [tx4 (q + i) (by omega)]
    refine ⟨fun c3 => ((br.2 c2).1 c3).elim, fun _ => ⟨2, by rw [g3 9 (by omega) (by omega)]; exact h9, by omega, sC_2, ?_⟩⟩
    rw [tx4 (q + i) (by omega), g5]
    intro M6 e6 M7 e7
    rw [nI_1]
    refine ih M7 ⟨?_, by rw [e7, e6]; exact g2, fun k k1 k11 => ?_, ?_, ?_⟩
    · rw [e7, e6]; exact (g1.tr (jsame.I rfl)).tr (jsame.I rfl)
    · rw [e7, jrI_s, pk_un k11, e6, jrI_s, pk_un k1]; exact g3 k k1 k11
    · rw [e7, jrI_s, pk_us, e6, jrI_s, pk_un (by omega), g4, nI_1]; rfl
    · rw [e7, jrI_s, pk_un (by omega), e6, jrI_s, pk_us, c4, show (10 : Int32) = nI 10 from rfl, show (48 : Int32) = nI 48 from rfl, pk_mul, nI_add, pk_sub (by omega), yDv, c3]
      congr 1; omega
theorem k_readSign {P : jM → Prop} {q : Nat} (ht : cTx M p f n) (h9 : M.1 p 9 = nI 2) (h11 : M.1 p 11 = nI q) (hq : q < n) (h : ∀ M', jsame (fun r => r = p) M M' → M'.2 = M.2 → (∀ k, k ≠ 0 → k ≠ 2 → k ≠ 11 → M'.1 p k = M.1 p k) → M'.1 p 0 = (if yS (f q) then 4 else 1) → M'.1 p 11 = nI (q + 1) → M'.1 p 2 = f q → P M') : JC x jtbC mX7_readSign d [.ref (x.2.2.2 p)] M (jV P) := by
  obtain ⟨n9, tx, wd, pp⟩ := ht
  have a0 := aX7_at pp
  have np : (2 : Nat) ≠ p := by omega
  refine b_X7_readSign a0 ⟨2, h9, by omega, sC_2, q, by omega, h11, ?_⟩
  intro M1 e1
  rw [tx q hq] at e1
  have s2 : M1.1 p 2 = f q := by rw [e1, jrI_s, pk_us]
  have go : ∀ b : Bool, yS (f q) = b → JW x jtbC mX7_readSign d (jV P) 54 [(0, .ref (x.2.2.2 p))] [.int (jb b)] M1 := fun b hb => by
    have fin : ∀ M2 M3, M2 = jrI M1 p (upd (M1.1 p) 0 (if yS (f q) then 4 else 1)) → M3 = jrI M2 p (upd (M2.1 p) 11 (M2.1 p 11 + 1)) → P M3 := fun M2 M3 e2 e3 => by
      refine h M3 (by rw [e3, e2, e1]; exact ((jsame.I (S := fun r => r = p) rfl).tr (jsame.I rfl)).tr (jsame.I rfl)) (by rw [e3, e2, e1]; rfl) (fun k k0 k2 k11 => by rw [e3, jrI_s, pk_un k11, e2, jrI_s, pk_un k0, e1, jrI_s, pk_un k2]) (by rw [e3, jrI_s, pk_un (by omega), e2, jrI_s, pk_us]) ?_ (by rw [e3, jrI_s, pk_un (by omega), e2, jrI_s, pk_un (by omega)]; exact s2)
      rw [e3, jrI_s, pk_us, e2, jrI_s, pk_un (by omega), e1, jrI_s, pk_un (by omega), h11, nI_1]
    refine b_X7_readSign_54 a0 ?_
    rw [jb_0]
    refine ⟨fun c M2 e2 M3 e3 => fin M2 M3 (by rw [hb, c]; exact e2) e3, fun c M2 e2 M3 e3 => fin M2 M3 ?_ e3⟩
    have : b = true := by revert c; cases b <;> simp
    rw [hb, this]; exact e2
  rw [s2]
  refine ⟨fun c => go true (decide_eq_true (Or.inl c)), fun c => ⟨fun c2 => go true (decide_eq_true (Or.inr (Or.inl c2))), fun c2 => ⟨fun c3 => go true (decide_eq_true (Or.inr (Or.inr (Or.inr c3)))), fun c3 => ⟨fun c4 => go false (decide_eq_false (fun u => ?_)), fun c4 => go true (decide_eq_true (Or.inr (Or.inr (Or.inl c4))))⟩⟩⟩⟩
  rcases u with u | u | u | u
  · exact c u
  · exact c2 u
  · exact c4 u
  · exact c3 u
end YRD
