/-! the model's faults, signs, numbers, names -/
def mBd (M : jM) (e : Int32 × Int32) : Prop := ¬ e.1 ≤ 0 ∧ M.1 0 12 = e.1 ∧ M.1 0 13 = e.2
theorem mBd.le {M : jM} {e : Int32 × Int32} (h : mBd M e) : ¬ M.1 0 12 ≤ 0 := by rw [h.2.1]; exact h.1
theorem mBd.ne {M : jM} {e : Int32 × Int32} (h : mBd M e) : ¬ M.1 0 12 = 0 := fun u => h.le (by rw [u]; decide)
def mFl (M M' : jM) (e : Int32 × Int32) : Prop := mSame M M' ∧ mBd M' e
theorem mKp.same {M M' : jM} (h : mKp M M') : mSame M M' := by
  obtain ⟨h1, h2, h3⟩ := h
  exact ⟨fun q _ q0 _ _ => h1 q q0, fun k hk => h2 k (by unfold mScI at hk; omega), h3, fun k _ => by rw [(h1 5 (by omega)).1], fun k _ => by rw [(h1 6 (by omega)).2]⟩
theorem yF_pos {f : Nat → Int32} {n a : Nat} {k : Int32} (hk : ¬ k ≤ 0) : ¬ (yF f n a k).1 ≤ 0 := by
  unfold yF
  by_cases c : yK f n a = 1
  · rw [if_pos c]; exact (by decide : ¬ (1 : Int32) ≤ 0)
  · rw [if_neg c]; exact hk
theorem yF_no {f : Nat → Int32} {n a : Nat} {k : Int32} (h : ¬ yK f n a = 1) : yF f n a k = (k, nI (yP f n a)) := by
  unfold yF; rw [if_neg h]
section MFL
variable {x : jX} {d : Nat} {M : jM} {f : Nat → Int32} {n a : Nat}
theorem mkK_is {k : Nat} (h1 : 1 ≤ k) (h2 : k ≤ 3) : mkK (yK f n a) = k ↔ yK f n a = k + 1 := by
  have := yK_le (f := f) (n := n) (a := a)
  unfold mkK
  split
  · omega
  · split <;> omega
theorem mkK_4 : mkK (yK f n a) = 4 ↔ yK f n a = 1 := by
  have := yK_le (f := f) (n := n) (a := a)
  unfold mkK
  split
  · omega
  · split <;> omega
theorem mkK_0 : mkK (yK f n a) = 0 ↔ yK f n a = 0 := by
  have := yK_le (f := f) (n := n) (a := a)
  unfold mkK
  split
  · omega
  · split <;> omega
theorem mRd.kind (h : mRd M f n a) {k : Nat} (hk : k < 2 ^ 30) : M.1 0 14 = nI k ↔ mkK (yK f n a) = k := by
  have ml := mkK_lt (f := f) (n := n) (a := a)
  rw [h.2.2.1, nI_eq (by omega) (by omega)]
theorem m_fail {P : jM → Prop} {k q : Int32} (h0 : M.1 0 12 = 0) (hk : ¬ k ≤ 0) (h : ∀ M', mFl M M' (k, q) → P M') : JC x jtbM mX12_fail d [.ref (x.2.2.2 0), .int k, .int q] M (jV P) := by
  refine b_X12_fail ⟨fun _ M1 e1 M2 e2 => h M2 ⟨?_, hk, ?_, ?_⟩, fun c => absurd (by rw [h0]; decide) c⟩
  · rw [e2, e1]; exact (mSame.slot (by unfold mScI; omega)).tr (mSame.slot (by unfold mScI; omega))
  · rw [e2, jrI_s, pk_un (by omega), e1, jrI_s, pk_us]
  · rw [e2, jrI_s, pk_us]
theorem m_failAt {P : jM → Prop} {k : Int32} (h0 : M.1 0 12 = 0) (hr : mRd M f n a) (hk : ¬ k ≤ 0) (h1 : ¬ yK f n a = 1) (h : ∀ M', mFl M M' (yF f n a k) → P M') : JC x jtbM mX12_fail d [.ref (x.2.2.2 0), .int k, .int (M.1 0 15)] M (jV P) := by
  rw [hr.2.1]
  rw [yF_no h1] at h
  exact m_fail h0 hk h
theorem m_wrong {P : jM → Prop} (h0 : M.1 0 12 = 0) (hr : mRd M f n a) (h : ∀ M', mFl M M' (yF f n a 2) → P M') : JC x jtbM mX12_wrong (d + 1) [.ref (x.2.2.2 0)] M (jV P) := by
  refine b_X12_wrong ?_
  rw [show (4 : Int32) = nI 4 from rfl, hr.kind (by omega), mkK_4, hr.2.1]
  refine ⟨fun c => m_fail h0 (by decide) (fun M' g => h M' ?_), fun c => m_fail h0 (by decide) (fun M' g => h M' ?_)⟩
  · unfold yF; rw [if_neg c]; exact g
  · unfold yF; rw [if_pos c]; exact g
theorem m_isSign {P : jM → Bool → Prop} {k : Int32} (hr : mRd M f n a) (h : P M (decide (yK f n a = 4 ∧ yG f n a = k))) : JC x jtbM mX12_isSign d [.ref (x.2.2.2 0), .int k] M (jZ P) := by
  refine b_X12_isSign ?_
  rw [show (3 : Int32) = nI 3 from rfl, hr.kind (by omega), mkK_is (by omega) (by omega)]
  refine ⟨fun c => ?_, fun c => ?_⟩
  · rw [decide_eq_false (fun u => c u.1)] at h; exact h
  · rw [hr.2.2.2.2.1 c]
    exact ⟨fun u => by rw [decide_eq_false (fun v => u v.2)] at h; exact h, fun u => by rw [decide_eq_true ⟨c, u⟩] at h; exact h⟩
theorem m_isSignA {P : jM → Bool → Prop} {k : Int32} (h : ∀ b, P M b) : JC x jtbM mX12_isSign d [.ref (x.2.2.2 0), .int k] M (jZ P) := b_X12_isSign ⟨fun _ => h _, fun _ => ⟨fun _ => h _, fun _ => h _⟩⟩
theorem m_go {P : jM → Prop} (hr : mRt M f n a) (h : ∀ M', mKp M M' → mRt M' f n (yX f n a) → P M') : JC x jtbM mX12_next (d + 1) [.ref (x.2.2.2 0)] M (jV P) :=
  m_next hr.1 hr.2.1.1 (yX_le hr.2.2) (fun M' k r => h M' k ⟨hr.1.keep k, r, yX_le hr.2.2⟩)
theorem m_must {P : jM → Prop} {b : Bool} (h0 : M.1 0 12 = 0) (hr : mRt M f n a) (h1 : b = true → ∀ M', mKp M M' → mRt M' f n (yX f n a) → P M') (h2 : b = false → ∀ M', mFl M M' (yF f n a 2) → P M') : JC x jtbM mX12_must (d + 2) [.ref (x.2.2.2 0), .int (jb b)] M (jV P) := by
  refine b_X12_must (d := d + 1) ⟨fun _ => ?_, fun c => absurd (by rw [h0]; decide) c⟩
  cases b
  · exact ⟨fun _ => m_wrong h0 hr.2.1 (h2 rfl), fun c => absurd rfl c⟩
  · exact ⟨fun c => absurd c (by decide), fun _ => m_go hr (h1 rfl)⟩
theorem m_mustB {P : jM → Prop} {v : Int32} {e : Int32 × Int32} (hb : mBd M e) (h : P M) : JC x jtbM mX12_must (d + 1) [.ref (x.2.2.2 0), .int v] M (jV P) := b_X12_must ⟨fun c => absurd c hb.le, fun _ => h⟩
theorem m_countB {P : jM → Int32 → Prop} {v w : Int32} {e : Int32 × Int32} (hb : mBd M e) (h : P M 0) : JC x jtbM mX12_count (d + 1) [.ref (x.2.2.2 0), .int v, .int w] M (jI P) :=
  b_X12_count ⟨fun _ => b_X12_count_19 ⟨fun _ => b_X12_count_50 ⟨fun c => absurd c hb.le, fun _ => h⟩, fun c => absurd c hb.ne⟩, fun c => absurd c hb.ne⟩
theorem m_inN {P : jM → Bool → Prop} {v lo hi : Nat} (hv : v < 2 ^ 30) (hlo : lo < 2 ^ 30) (hhi : hi < 2 ^ 30) (h : P M (decide (lo ≤ v ∧ v ≤ hi))) : JC x jtbM mX12_isIn d [.long (nI v).toInt64, .long (nI lo).toInt64, .long (nI hi).toInt64] M (jZ P) := by
  refine k_mIsIn ?_
  rw [Int32.toInt_toInt64, Int32.toInt_toInt64, Int32.toInt_toInt64, nI_toInt (by omega), nI_toInt (by omega), nI_toInt (by omega)]
  have : decide ((lo : Int) ≤ (v : Int) ∧ (v : Int) ≤ (hi : Int)) = decide (lo ≤ v ∧ v ≤ hi) := by
    congr 1; apply propext; omega
  rw [this]
  exact h
theorem m_count {P : jM → Int32 → Prop} {lo hi : Nat} (hlo : lo < 2 ^ 30) (hhi : hi < 2 ^ 30) (h0 : M.1 0 12 = 0) (hr : mRt M f n a) (h1 : ∀ a' v, tkN f n a lo hi = .inr (a', v) → ∀ M', mKp M M' → mRt M' f n a' → P M' (nI v)) (h2 : ∀ e, tkN f n a lo hi = .inl e → ∀ M', mFl M M' e → P M' 0) : JC x jtbM mX12_count (d + 2) [.ref (x.2.2.2 0), .int (nI lo), .int (nI hi)] M (jI P) := by
  unfold tkN at h1 h2
  refine b_X12_count (d := d + 1) ⟨fun c => absurd h0 c, fun _ => ?_⟩
  rw [show (2 : Int32) = nI 2 from rfl, hr.2.1.kind (by omega), mkK_is (by omega) (by omega)]
  refine ⟨fun c => ?_, fun c => ?_⟩
  · have vl := yN_lt (f := f) (n := n) (a := a) c
    rw [if_pos c] at h1 h2
    refine b_X12_count_19 ⟨fun c => absurd h0 c, fun _ => ?_⟩
    rw [hr.2.1.2.2.2.1 c]
    refine m_inN (by omega) hlo hhi ⟨fun t => ?_, fun t => ?_⟩
    · rw [if_pos (of_decide_eq_true t)] at h1
      refine b_X12_count_50 ⟨fun _ => ?_, fun u => absurd (by rw [h0]; decide) u⟩
      rw [hr.2.1.2.2.2.1 c]
      exact m_go hr (h1 _ _ rfl)
    · rw [if_neg (of_decide_eq_false t)] at h2
      exact m_failAt h0 hr.2.1 (by decide) (by omega) (fun M' g => b_X12_count_50 ⟨fun u => absurd u g.2.le, fun _ => h2 _ rfl M' g⟩)
  · rw [if_neg c] at h2
    refine m_wrong h0 hr.2.1 (fun M' g => ?_)
    exact b_X12_count_19 ⟨fun _ => b_X12_count_50 ⟨fun u => absurd u g.2.le, fun _ => h2 _ rfl M' g⟩, fun u => absurd u g.2.ne⟩
theorem m_isKept {P : jM → Bool → Prop} (h0 : mRt M f n a) (h : P M (decide (yI f n a < 26))) : JC x jtbM mX12_isKept (d + 2) [.ref (x.2.2.2 0)] M (jZ P) := by
  have y : ∀ k, k < 26 → decide (yI f n a = k) = true → P M true := fun k hk e => by
    rw [decide_eq_true (show yI f n a < 26 by have := of_decide_eq_true e; omega)] at h; exact h
  refine b_X12_isKept (d := d + 1) (m_sideWord h0 ?_)
  by_cases s : 18 ≤ yI f n a ∧ yI f n a < 26
  · rw [if_pos s]
    refine ⟨fun _ => by rw [decide_eq_true s.2] at h; exact h, fun c => absurd ?_ c⟩
    rw [Int32.le_iff_toInt_le, nI_toInt (by omega)]
    exact Int.natCast_nonneg _
  · rw [if_neg s]
    refine ⟨fun c => absurd c (by decide), fun _ => ?_⟩
    refine m_isSize h0 ⟨y 0 (by decide), fun n0 => ?_⟩
    refine m_isMost h0 ⟨y 1 (by decide), fun n1 => ?_⟩
    refine m_isLeast h0 ⟨y 2 (by decide), fun n2 => ?_⟩
    refine m_isPrice h0 ⟨y 3 (by decide), fun n3 => ?_⟩
    refine m_isVillageWord h0 ⟨y 4 (by decide), fun n4 => ?_⟩
    refine m_isSees h0 ⟨y 5 (by decide), fun n5 => ?_⟩
    refine m_isRaise h0 ⟨y 6 (by decide), fun n6 => ?_⟩
    refine m_isLower h0 ⟨y 7 (by decide), fun n7 => ?_⟩
    refine m_isBy h0 ⟨fun n8 => ?_, y 8 (by decide)⟩
    refine m_isStorm h0 ⟨y 9 (by decide), fun n9 => ?_⟩
    refine m_isWhen h0 ⟨y 10 (by decide), fun n10 => ?_⟩
    refine m_isCellWord h0 ⟨y 11 (by decide), fun n11 => ?_⟩
    refine m_isAt h0 ⟨y 12 (by decide), fun n12 => ?_⟩
    refine m_isSame h0 ⟨y 13 (by decide), fun n13 => ?_⟩
    refine m_isStone h0 ⟨y 14 (by decide), fun n14 => ?_⟩
    refine m_isLoop h0 ⟨y 15 (by decide), fun n15 => ?_⟩
    refine m_isEnd h0 ⟨y 16 (by decide), fun n16 => ?_⟩
    refine m_isStop h0 ⟨fun n17 => ?_, y 17 (by decide)⟩
    have := of_decide_eq_false n0
    have := of_decide_eq_false n1
    have := of_decide_eq_false n2
    have := of_decide_eq_false n3
    have := of_decide_eq_false n4
    have := of_decide_eq_false n5
    have := of_decide_eq_false n6
    have := of_decide_eq_false n7
    have := of_decide_eq_false n8
    have := of_decide_eq_false n9
    have := of_decide_eq_false n10
    have := of_decide_eq_false n11
    have := of_decide_eq_false n12
    have := of_decide_eq_false n13
    have := of_decide_eq_false n14
    have := of_decide_eq_false n15
    have := of_decide_eq_false n16
    have := of_decide_eq_false n17
    rw [decide_eq_false (show ¬ yI f n a < 26 by omega)] at h
    exact h
theorem m_isName {P : jM → Bool → Prop} (h0 : mRt M f n a) (h : P M (yNm f n a)) : JC x jtbM mX12_isName (d + 3) [.ref (x.2.2.2 0)] M (jZ P) := by
  have il := yI_le (f := f) (n := n) (a := a)
  have lle : yLt f n a ≤ n - yP f n a := yRun_le _ _ _ _
  have n9 := h0.1.1
  unfold yNm at h
  refine b_X12_isName (d := d + 2) ?_
  rw [show (1 : Int32) = nI 1 from rfl, h0.2.1.kind (by omega), mkK_is (by omega) (by omega)]
  refine ⟨fun c => ?_, fun c => ?_⟩
  · rw [decide_eq_false (fun u => c u.1)] at h; exact h
  · rw [(h0.2.1.2.2.2.2.2 c).2, show (8 : Int32) = nI 8 from rfl]
    refine pk_lt 8 (yLt f n a) (fun g => ?_) (fun g => m_isKept h0 ⟨fun k => ?_, fun k => ?_⟩)
    · rw [decide_eq_false (fun u => absurd u.2.1 (by omega))] at h; exact h
    · rw [decide_eq_false (fun u => absurd (of_decide_eq_true k) (by omega))] at h; exact h
    · have := of_decide_eq_false k
      rw [decide_eq_true ⟨c, by omega, by omega⟩] at h; exact h
/-- the first place of a name -/
theorem m_named {P : jM → Int32 → Prop} {b N : Nat} {g : Nat → Int64} {w : Int64} (hb : b ≤ 4) (hN : N ≤ 6) (hg : ∀ v, v < N → M.2 6 (6 * b + v) = g v) (hw : M.2 0 22 = w) (h1 : (∀ v, v < N → ¬ g v = w) → P M (-1)) (h2 : ∀ v, v < N → g v = w → (∀ u, u < v → ¬ g u = w) → P M (nI v)) : JC x jtbM mX12_named d [.ref (x.2.2.2 0), .int (nI b), .int (nI N)] M (jI P) := by
  refine b_X12_named ?_
  refine jloop (fun i (M' : jM) => JW x jtbM mX12_named d (jI P) 2 [(0, .ref (x.2.2.2 0)), (1, .int (nI b)), (2, .int (nI N)), (3, .int (nI i))] [] M') (fun i M' => M' = M ∧ ∀ v, v < i → ¬ g v = w) N ?_ ?_ 0 M (Nat.zero_le _) ⟨rfl, fun v hv => absurd hv (Nat.not_lt_zero _)⟩
  · rintro M' ⟨rfl, hv⟩
    exact b_X12_named_2 (pk_le N N (fun _ => h1 hv) (fun c => absurd c (by omega)))
  · rintro i M' hi ⟨rfl, hv⟩ ih
    refine b_X12_named_2 (pk_le N i (fun c => absurd c (by omega)) (fun _ => ⟨6 * b + i, by omega, by rw [show (6 : Int32) = nI 6 from rfl, pk_mul, nI_add], fun c => ?_, fun c => ?_⟩))
    · rw [hg i hi, hw] at c
      rw [nI_1]
      refine ih M' ⟨rfl, fun v hv' => ?_⟩
      by_cases e : v = i
      · rw [e]; exact c
      · exact hv v (by omega)
    · rw [hg i hi, hw] at c
      exact h2 i hi c hv
end MFL
