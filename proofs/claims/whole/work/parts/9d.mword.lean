/-! the model's words, faults, numbers -/
def spl (a0 a1 a2 a3 a4 a5 : Int32) : Int64 :=
  let w0 := a0.toInt64 - (96 : Int64)
  let w1 := if a1 ≤ 0 then w0 else (w0 * (32 : Int64) + a1.toInt64) - (96 : Int64)
  let w2 := if a2 ≤ 0 then w1 else (w1 * (32 : Int64) + a2.toInt64) - (96 : Int64)
  let w3 := if a3 ≤ 0 then w2 else (w2 * (32 : Int64) + a3.toInt64) - (96 : Int64)
  let w4 := if a4 ≤ 0 then w3 else (w3 * (32 : Int64) + a4.toInt64) - (96 : Int64)
  if a5 ≤ 0 then w4 else (w4 * (32 : Int64) + a5.toInt64) - (96 : Int64)
def mRt (M : jM) (f : Nat → Int32) (n a : Nat) : Prop := mTx M f n ∧ mRd M f n a ∧ a ≤ n
section MWD
variable {x : jX} {d : Nat} {M : jM} {f : Nat → Int32} {n a : Nat}
theorem m_spelled {P : jM → Int64 → Prop} {a0 a1 a2 a3 a4 a5 : Int32} (h : P M (spl a0 a1 a2 a3 a4 a5)) : JC x jtbM mX12_spelled d [.int a0, .int a1, .int a2, .int a3, .int a4, .int a5] M (jL P) := by
  have s104 : ∀ k0 : Int64, P M (if a5 ≤ 0 then k0 else (k0 * (32 : Int64) + a5.toInt64) - (96 : Int64)) → JW x jtbM mX12_spelled d (jL P) 104 [(5, .int a5)] [.long k0] M := fun k0 h0 =>
    b_X12_spelled_104 ⟨fun c => by rw [if_pos c] at h0; exact h0, fun c => by rw [if_neg c] at h0; exact h0⟩
  have s78 : ∀ k0 : Int64, (∀ k1, k1 = (if a4 ≤ 0 then k0 else (k0 * (32 : Int64) + a4.toInt64) - (96 : Int64)) → P M (if a5 ≤ 0 then k1 else (k1 * (32 : Int64) + a5.toInt64) - (96 : Int64))) → JW x jtbM mX12_spelled d (jL P) 78 [(4, .int a4), (5, .int a5)] [.long k0] M := fun k0 h0 =>
    b_X12_spelled_78 ⟨fun c => s104 _ (h0 _ (if_pos c).symm), fun c => s104 _ (h0 _ (if_neg c).symm)⟩
  have s54 : ∀ k0 : Int64, (∀ k2, k2 = (if a3 ≤ 0 then k0 else (k0 * (32 : Int64) + a3.toInt64) - (96 : Int64)) → ∀ k1, k1 = (if a4 ≤ 0 then k2 else (k2 * (32 : Int64) + a4.toInt64) - (96 : Int64)) → P M (if a5 ≤ 0 then k1 else (k1 * (32 : Int64) + a5.toInt64) - (96 : Int64))) → JW x jtbM mX12_spelled d (jL P) 54 [(3, .int a3), (4, .int a4), (5, .int a5)] [.long k0] M := fun k0 h0 =>
    b_X12_spelled_54 ⟨fun c => s78 _ (h0 _ (if_pos c).symm), fun c => s78 _ (h0 _ (if_neg c).symm)⟩
  have s30 : ∀ k0 : Int64, (∀ k3, k3 = (if a2 ≤ 0 then k0 else (k0 * (32 : Int64) + a2.toInt64) - (96 : Int64)) → ∀ k2, k2 = (if a3 ≤ 0 then k3 else (k3 * (32 : Int64) + a3.toInt64) - (96 : Int64)) → ∀ k1, k1 = (if a4 ≤ 0 then k2 else (k2 * (32 : Int64) + a4.toInt64) - (96 : Int64)) → P M (if a5 ≤ 0 then k1 else (k1 * (32 : Int64) + a5.toInt64) - (96 : Int64))) → JW x jtbM mX12_spelled d (jL P) 30 [(2, .int a2), (3, .int a3), (4, .int a4), (5, .int a5)] [.long k0] M := fun k0 h0 =>
    b_X12_spelled_30 ⟨fun c => s54 _ (h0 _ (if_pos c).symm), fun c => s54 _ (h0 _ (if_neg c).symm)⟩
  refine b_X12_spelled ⟨fun c => s30 _ ?_, fun c => s30 _ ?_⟩
  · rintro k3 rfl k2 rfl k1 rfl
    unfold spl at h
    simp only [if_pos c] at h
    exact h
  · rintro k3 rfl k2 rfl k1 rfl
    unfold spl at h
    simp only [if_neg c] at h
    exact h
theorem mkK_1 : mkK (yK f n a) = 1 ↔ yK f n a = 2 := by
  have := yK_le (f := f) (n := n) (a := a)
  unfold mkK
  split
  · omega
  · split <;> omega
theorem mkK_lt : mkK (yK f n a) ≤ 4 := by
  have := yK_le (f := f) (n := n) (a := a)
  unfold mkK
  split
  · omega
  · split <;> omega
theorem m_isWord {P : jM → Bool → Prop} {k : Nat} (hk : k < 26) (h0 : mRt M f n a) (h : P M (decide (yI f n a = k))) : JC x jtbM mX12_isWord d [.ref (x.2.2.2 0), .long (lN (qWl.getD k 0))] M (jZ P) := by
  obtain ⟨t, r, le⟩ := h0
  have ml := mkK_lt (f := f) (n := n) (a := a)
  refine b_X12_isWord ?_
  rw [r.2.2.1, show (1 : Int32) = nI 1 from rfl, nI_eq (by omega) (by omega), mkK_1]
  refine ⟨fun c => ?_, fun c => ?_⟩
  · rw [decide_eq_false] at h
    · exact h
    · intro e
      exact c (yI_word (by omega)).1
  · have w := (r.2.2.2.2.2 c).1
    rw [w]
    have wl := yWl_lt k hk
    have key : (if yLt f n a ≤ 8 then lN (yV f n a) else -1) = lN (qWl.getD k 0) ↔ yI f n a = k := by
      by_cases l8 : yLt f n a ≤ 8
      · rw [if_pos l8, pk_lEQ (by have := yV_lt l8; omega) (by omega)]
        have e : yI f n a = yWi (yV f n a) := by unfold yI; rw [if_pos ⟨c, l8⟩]
        constructor
        · intro u; rw [e]; exact yWi_at hk u.symm
        · intro u
          have := (yI_word (f := f) (n := n) (a := a) (by omega)).2.2
          rw [u] at this
          exact this.symm
      · rw [if_neg l8]
        constructor
        · intro u
          have := congrArg Int64.toInt u
          rw [pk_lT (by omega)] at this
          have m1 : (-1 : Int64).toInt = -1 := by decide
          omega
        · intro u
          have := (yI_word (f := f) (n := n) (a := a) (by omega)).2.1
          omega
    rw [key]
    exact ⟨fun u => by rw [decide_eq_false u] at h; exact h, fun u => by rw [decide_eq_true u] at h; exact h⟩
theorem m_isWordA {P : jM → Bool → Prop} {w : Int64} (h : ∀ b, P M b) : JC x jtbM mX12_isWord d [.ref (x.2.2.2 0), .long w] M (jZ P) := b_X12_isWord ⟨fun _ => h _, fun _ => ⟨fun _ => h _, fun _ => h _⟩⟩

theorem spl_0 : spl 115 105 122 101 0 0 = lN (qWl.getD 0 0) := by decide +kernel
theorem m_isSize {P : jM → Bool → Prop} (h0 : mRt M f n a) (h : P M (decide (yI f n a = 0))) : JC x jtbM mX12_isSize (d + 1) [.ref (x.2.2.2 0)] M (jZ P) := by
  refine b_X12_isSize (m_spelled ?_)
  rw [spl_0]
  exact m_isWord (by decide) h0 h
theorem m_isSizeA {P : jM → Bool → Prop} (h : ∀ b, P M b) : JC x jtbM mX12_isSize (d + 1) [.ref (x.2.2.2 0)] M (jZ P) := b_X12_isSize (m_spelled (m_isWordA h))
theorem spl_1 : spl 109 111 115 116 0 0 = lN (qWl.getD 1 0) := by decide +kernel
theorem m_isMost {P : jM → Bool → Prop} (h0 : mRt M f n a) (h : P M (decide (yI f n a = 1))) : JC x jtbM mX12_isMost (d + 1) [.ref (x.2.2.2 0)] M (jZ P) := by
  refine b_X12_isMost (m_spelled ?_)
  rw [spl_1]
  exact m_isWord (by decide) h0 h
theorem m_isMostA {P : jM → Bool → Prop} (h : ∀ b, P M b) : JC x jtbM mX12_isMost (d + 1) [.ref (x.2.2.2 0)] M (jZ P) := b_X12_isMost (m_spelled (m_isWordA h))
theorem spl_2 : spl 108 101 97 115 116 0 = lN (qWl.getD 2 0) := by decide +kernel
theorem m_isLeast {P : jM → Bool → Prop} (h0 : mRt M f n a) (h : P M (decide (yI f n a = 2))) : JC x jtbM mX12_isLeast (d + 1) [.ref (x.2.2.2 0)] M (jZ P) := by
  refine b_X12_isLeast (m_spelled ?_)
  rw [spl_2]
  exact m_isWord (by decide) h0 h
theorem m_isLeastA {P : jM → Bool → Prop} (h : ∀ b, P M b) : JC x jtbM mX12_isLeast (d + 1) [.ref (x.2.2.2 0)] M (jZ P) := b_X12_isLeast (m_spelled (m_isWordA h))
theorem spl_3 : spl 112 114 105 99 101 0 = lN (qWl.getD 3 0) := by decide +kernel
theorem m_isPrice {P : jM → Bool → Prop} (h0 : mRt M f n a) (h : P M (decide (yI f n a = 3))) : JC x jtbM mX12_isPrice (d + 1) [.ref (x.2.2.2 0)] M (jZ P) := by
  refine b_X12_isPrice (m_spelled ?_)
  rw [spl_3]
  exact m_isWord (by decide) h0 h
theorem m_isPriceA {P : jM → Bool → Prop} (h : ∀ b, P M b) : JC x jtbM mX12_isPrice (d + 1) [.ref (x.2.2.2 0)] M (jZ P) := b_X12_isPrice (m_spelled (m_isWordA h))
theorem spl_4 : (spl 118 105 108 108 97 103 * (32 : Int64) + (101 : Int64)) - (96 : Int64) = lN (qWl.getD 4 0) := by decide +kernel
theorem m_isVillageWord {P : jM → Bool → Prop} (h0 : mRt M f n a) (h : P M (decide (yI f n a = 4))) : JC x jtbM mX12_isVillageWord (d + 1) [.ref (x.2.2.2 0)] M (jZ P) := by
  refine b_X12_isVillageWord (m_spelled ?_)
  rw [spl_4]
  exact m_isWord (by decide) h0 h
theorem m_isVillageWordA {P : jM → Bool → Prop} (h : ∀ b, P M b) : JC x jtbM mX12_isVillageWord (d + 1) [.ref (x.2.2.2 0)] M (jZ P) := b_X12_isVillageWord (m_spelled (m_isWordA h))
theorem spl_5 : spl 115 101 101 115 0 0 = lN (qWl.getD 5 0) := by decide +kernel
theorem m_isSees {P : jM → Bool → Prop} (h0 : mRt M f n a) (h : P M (decide (yI f n a = 5))) : JC x jtbM mX12_isSees (d + 1) [.ref (x.2.2.2 0)] M (jZ P) := by
  refine b_X12_isSees (m_spelled ?_)
  rw [spl_5]
  exact m_isWord (by decide) h0 h
theorem m_isSeesA {P : jM → Bool → Prop} (h : ∀ b, P M b) : JC x jtbM mX12_isSees (d + 1) [.ref (x.2.2.2 0)] M (jZ P) := b_X12_isSees (m_spelled (m_isWordA h))
theorem spl_6 : spl 114 97 105 115 101 0 = lN (qWl.getD 6 0) := by decide +kernel
theorem m_isRaise {P : jM → Bool → Prop} (h0 : mRt M f n a) (h : P M (decide (yI f n a = 6))) : JC x jtbM mX12_isRaise (d + 1) [.ref (x.2.2.2 0)] M (jZ P) := by
  refine b_X12_isRaise (m_spelled ?_)
  rw [spl_6]
  exact m_isWord (by decide) h0 h
theorem m_isRaiseA {P : jM → Bool → Prop} (h : ∀ b, P M b) : JC x jtbM mX12_isRaise (d + 1) [.ref (x.2.2.2 0)] M (jZ P) := b_X12_isRaise (m_spelled (m_isWordA h))
theorem spl_7 : spl 108 111 119 101 114 0 = lN (qWl.getD 7 0) := by decide +kernel
theorem m_isLower {P : jM → Bool → Prop} (h0 : mRt M f n a) (h : P M (decide (yI f n a = 7))) : JC x jtbM mX12_isLower (d + 1) [.ref (x.2.2.2 0)] M (jZ P) := by
  refine b_X12_isLower (m_spelled ?_)
  rw [spl_7]
  exact m_isWord (by decide) h0 h
theorem m_isLowerA {P : jM → Bool → Prop} (h : ∀ b, P M b) : JC x jtbM mX12_isLower (d + 1) [.ref (x.2.2.2 0)] M (jZ P) := b_X12_isLower (m_spelled (m_isWordA h))
theorem spl_8 : spl 98 121 0 0 0 0 = lN (qWl.getD 8 0) := by decide +kernel
theorem m_isBy {P : jM → Bool → Prop} (h0 : mRt M f n a) (h : P M (decide (yI f n a = 8))) : JC x jtbM mX12_isBy (d + 1) [.ref (x.2.2.2 0)] M (jZ P) := by
  refine b_X12_isBy (m_spelled ?_)
  rw [spl_8]
  exact m_isWord (by decide) h0 h
theorem m_isByA {P : jM → Bool → Prop} (h : ∀ b, P M b) : JC x jtbM mX12_isBy (d + 1) [.ref (x.2.2.2 0)] M (jZ P) := b_X12_isBy (m_spelled (m_isWordA h))
theorem spl_9 : spl 115 116 111 114 109 0 = lN (qWl.getD 9 0) := by decide +kernel
theorem m_isStorm {P : jM → Bool → Prop} (h0 : mRt M f n a) (h : P M (decide (yI f n a = 9))) : JC x jtbM mX12_isStorm (d + 1) [.ref (x.2.2.2 0)] M (jZ P) := by
  refine b_X12_isStorm (m_spelled ?_)
  rw [spl_9]
  exact m_isWord (by decide) h0 h
theorem m_isStormA {P : jM → Bool → Prop} (h : ∀ b, P M b) : JC x jtbM mX12_isStorm (d + 1) [.ref (x.2.2.2 0)] M (jZ P) := b_X12_isStorm (m_spelled (m_isWordA h))
theorem spl_10 : spl 119 104 101 110 0 0 = lN (qWl.getD 10 0) := by decide +kernel
theorem m_isWhen {P : jM → Bool → Prop} (h0 : mRt M f n a) (h : P M (decide (yI f n a = 10))) : JC x jtbM mX12_isWhen (d + 1) [.ref (x.2.2.2 0)] M (jZ P) := by
  refine b_X12_isWhen (m_spelled ?_)
  rw [spl_10]
  exact m_isWord (by decide) h0 h
theorem m_isWhenA {P : jM → Bool → Prop} (h : ∀ b, P M b) : JC x jtbM mX12_isWhen (d + 1) [.ref (x.2.2.2 0)] M (jZ P) := b_X12_isWhen (m_spelled (m_isWordA h))
theorem spl_11 : spl 99 101 108 108 0 0 = lN (qWl.getD 11 0) := by decide +kernel
theorem m_isCellWord {P : jM → Bool → Prop} (h0 : mRt M f n a) (h : P M (decide (yI f n a = 11))) : JC x jtbM mX12_isCellWord (d + 1) [.ref (x.2.2.2 0)] M (jZ P) := by
  refine b_X12_isCellWord (m_spelled ?_)
  rw [spl_11]
  exact m_isWord (by decide) h0 h
theorem m_isCellWordA {P : jM → Bool → Prop} (h : ∀ b, P M b) : JC x jtbM mX12_isCellWord (d + 1) [.ref (x.2.2.2 0)] M (jZ P) := b_X12_isCellWord (m_spelled (m_isWordA h))
theorem spl_12 : spl 97 116 0 0 0 0 = lN (qWl.getD 12 0) := by decide +kernel
theorem m_isAt {P : jM → Bool → Prop} (h0 : mRt M f n a) (h : P M (decide (yI f n a = 12))) : JC x jtbM mX12_isAt (d + 1) [.ref (x.2.2.2 0)] M (jZ P) := by
  refine b_X12_isAt (m_spelled ?_)
  rw [spl_12]
  exact m_isWord (by decide) h0 h
theorem m_isAtA {P : jM → Bool → Prop} (h : ∀ b, P M b) : JC x jtbM mX12_isAt (d + 1) [.ref (x.2.2.2 0)] M (jZ P) := b_X12_isAt (m_spelled (m_isWordA h))
theorem spl_13 : spl 115 97 109 101 0 0 = lN (qWl.getD 13 0) := by decide +kernel
theorem m_isSame {P : jM → Bool → Prop} (h0 : mRt M f n a) (h : P M (decide (yI f n a = 13))) : JC x jtbM mX12_isSame (d + 1) [.ref (x.2.2.2 0)] M (jZ P) := by
  refine b_X12_isSame (m_spelled ?_)
  rw [spl_13]
  exact m_isWord (by decide) h0 h
theorem m_isSameA {P : jM → Bool → Prop} (h : ∀ b, P M b) : JC x jtbM mX12_isSame (d + 1) [.ref (x.2.2.2 0)] M (jZ P) := b_X12_isSame (m_spelled (m_isWordA h))
theorem spl_14 : spl 115 116 111 110 101 0 = lN (qWl.getD 14 0) := by decide +kernel
theorem m_isStone {P : jM → Bool → Prop} (h0 : mRt M f n a) (h : P M (decide (yI f n a = 14))) : JC x jtbM mX12_isStone (d + 1) [.ref (x.2.2.2 0)] M (jZ P) := by
  refine b_X12_isStone (m_spelled ?_)
  rw [spl_14]
  exact m_isWord (by decide) h0 h
theorem m_isStoneA {P : jM → Bool → Prop} (h : ∀ b, P M b) : JC x jtbM mX12_isStone (d + 1) [.ref (x.2.2.2 0)] M (jZ P) := b_X12_isStone (m_spelled (m_isWordA h))
theorem spl_15 : spl 108 111 111 112 0 0 = lN (qWl.getD 15 0) := by decide +kernel
theorem m_isLoop {P : jM → Bool → Prop} (h0 : mRt M f n a) (h : P M (decide (yI f n a = 15))) : JC x jtbM mX12_isLoop (d + 1) [.ref (x.2.2.2 0)] M (jZ P) := by
  refine b_X12_isLoop (m_spelled ?_)
  rw [spl_15]
  exact m_isWord (by decide) h0 h
theorem m_isLoopA {P : jM → Bool → Prop} (h : ∀ b, P M b) : JC x jtbM mX12_isLoop (d + 1) [.ref (x.2.2.2 0)] M (jZ P) := b_X12_isLoop (m_spelled (m_isWordA h))
theorem spl_16 : spl 101 110 100 0 0 0 = lN (qWl.getD 16 0) := by decide +kernel
theorem m_isEnd {P : jM → Bool → Prop} (h0 : mRt M f n a) (h : P M (decide (yI f n a = 16))) : JC x jtbM mX12_isEnd (d + 1) [.ref (x.2.2.2 0)] M (jZ P) := by
  refine b_X12_isEnd (m_spelled ?_)
  rw [spl_16]
  exact m_isWord (by decide) h0 h
theorem m_isEndA {P : jM → Bool → Prop} (h : ∀ b, P M b) : JC x jtbM mX12_isEnd (d + 1) [.ref (x.2.2.2 0)] M (jZ P) := b_X12_isEnd (m_spelled (m_isWordA h))
theorem spl_17 : spl 115 116 111 112 0 0 = lN (qWl.getD 17 0) := by decide +kernel
theorem m_isStop {P : jM → Bool → Prop} (h0 : mRt M f n a) (h : P M (decide (yI f n a = 17))) : JC x jtbM mX12_isStop (d + 1) [.ref (x.2.2.2 0)] M (jZ P) := by
  refine b_X12_isStop (m_spelled ?_)
  rw [spl_17]
  exact m_isWord (by decide) h0 h
theorem m_isStopA {P : jM → Bool → Prop} (h : ∀ b, P M b) : JC x jtbM mX12_isStop (d + 1) [.ref (x.2.2.2 0)] M (jZ P) := b_X12_isStop (m_spelled (m_isWordA h))
theorem spl_18 : spl 110 0 0 0 0 0 = lN (qWl.getD 18 0) := by decide +kernel
theorem spl_19 : spl 110 101 0 0 0 0 = lN (qWl.getD 19 0) := by decide +kernel
theorem spl_20 : spl 101 0 0 0 0 0 = lN (qWl.getD 20 0) := by decide +kernel
theorem spl_21 : spl 115 101 0 0 0 0 = lN (qWl.getD 21 0) := by decide +kernel
theorem spl_22 : spl 115 0 0 0 0 0 = lN (qWl.getD 22 0) := by decide +kernel
theorem spl_23 : spl 115 119 0 0 0 0 = lN (qWl.getD 23 0) := by decide +kernel
theorem spl_24 : spl 119 0 0 0 0 0 = lN (qWl.getD 24 0) := by decide +kernel
theorem spl_25 : spl 110 119 0 0 0 0 = lN (qWl.getD 25 0) := by decide +kernel
theorem m_sideWord {P : jM → Int32 → Prop} (h0 : mRt M f n a) (h : P M (if 18 ≤ yI f n a ∧ yI f n a < 26 then nI (yI f n a - 18) else -1)) : JC x jtbM mX12_sideWord (d + 1) [.ref (x.2.2.2 0)] M (jI P) := by
  have yes : ∀ k, 18 ≤ k → k < 26 → decide (yI f n a = k) = true → P M (nI (k - 18)) := fun k k1 k2 e => by
    have e' := of_decide_eq_true e
    rw [e', if_pos ⟨k1, k2⟩] at h
    exact h
  refine b_X12_sideWord ?_
  refine m_spelled ?_
  rw [spl_18]
  refine m_isWord (by decide) h0 ⟨fun n18 => ?_, fun e => yes 18 (by decide) (by decide) e⟩
  refine m_spelled ?_
  rw [spl_19]
  refine m_isWord (by decide) h0 ⟨fun n19 => ?_, fun e => yes 19 (by decide) (by decide) e⟩
  refine m_spelled ?_
  rw [spl_20]
  refine m_isWord (by decide) h0 ⟨fun n20 => ?_, fun e => yes 20 (by decide) (by decide) e⟩
  refine m_spelled ?_
  rw [spl_21]
  refine m_isWord (by decide) h0 ⟨fun n21 => ?_, fun e => yes 21 (by decide) (by decide) e⟩
  refine m_spelled ?_
  rw [spl_22]
  refine m_isWord (by decide) h0 ⟨fun n22 => ?_, fun e => yes 22 (by decide) (by decide) e⟩
  refine m_spelled ?_
  rw [spl_23]
  refine m_isWord (by decide) h0 ⟨fun n23 => ?_, fun e => yes 23 (by decide) (by decide) e⟩
  refine m_spelled ?_
  rw [spl_24]
  refine m_isWord (by decide) h0 ⟨fun n24 => ?_, fun e => yes 24 (by decide) (by decide) e⟩
  refine m_spelled ?_
  rw [spl_25]
  refine m_isWord (by decide) h0 ⟨fun n25 => ?_, fun e => yes 25 (by decide) (by decide) e⟩
  rw [if_neg] at h
  · exact h
  · rintro ⟨u1, u2⟩
    have := of_decide_eq_false n18
    have := of_decide_eq_false n19
    have := of_decide_eq_false n20
    have := of_decide_eq_false n21
    have := of_decide_eq_false n22
    have := of_decide_eq_false n23
    have := of_decide_eq_false n24
    have := of_decide_eq_false n25
    omega
end MWD
