/-! the lowest and the highest bit -/
def shI (a k : Int32) : Int32 := (a.toUInt32 >>> (k.toUInt32 &&& Int32.toUInt32 31)).toInt32
def tz62 (a n : Int32) : Int32 := if a ≤ 4 then n + shI a 1 else (n + 2) + shI (shI a 2) 1
def tz34 (a n : Int32) : Int32 := if a ≤ 256 then (if a ≤ 16 then tz62 a n else tz62 (shI a 4) (n + 4)) else (if shI a 8 ≤ 16 then tz62 (shI a 8) (n + 8) else tz62 (shI (shI a 8) 4) ((n + 8) + 4))
def jTz (i : Int32) : Int32 := if 0 < i then (if i ≤ 65536 then tz34 i 1 else tz34 (shI i 16) (1 + 16)) else i &&& 32
theorem jTz_pow : ∀ t, t < 31 → jTz (nI (2 ^ t - 1)) = nI t := by decide +kernel
def lz61 (a n : Int32) : Int32 := if a < 4 then n - shI a 1 else (n + (-2)) - shI (shI a 2) 1
def lz33 (a n : Int32) : Int32 := if a < 256 then (if a < 16 then lz61 a n else lz61 (shI a 4) (n + (-4))) else (if shI a 8 < 16 then lz61 (shI a 8) (n + (-8)) else lz61 (shI (shI a 8) 4) ((n + (-8)) + (-4)))
def jLz (i : Int32) : Int32 := if 0 < i then (if i < 65536 then lz33 i 31 else lz33 (shI i 16) (31 + (-16))) else if i = 0 then 32 else 0
section BT2
variable {x : jX} {tb : jT} {d : Nat} {M : jM}
theorem k_tz62 {P : jM → Int32 → Prop} {a n : Int32} (h : P M (tz62 a n)) : JW x tb mJ6_numberOfTrailingZeros_0f7a4 d (jI P) 62 [(0, .int a), (1, .int n)] [] M := by
  refine b_J6_numberOfTrailingZeros_0f7a4_62 ?_
  unfold tz62 at h
  exact ⟨fun c => by rw [if_pos c] at h; exact h, fun c => by rw [if_neg c] at h; exact h⟩
theorem k_tz34 {P : jM → Int32 → Prop} {a n : Int32} (h : P M (tz34 a n)) : JW x tb mJ6_numberOfTrailingZeros_0f7a4 d (jI P) 34 [(0, .int a), (1, .int n)] [] M := by
  refine b_J6_numberOfTrailingZeros_0f7a4_34 ?_
  unfold tz34 at h
  refine ⟨fun c => ?_, fun c => ?_⟩
  · rw [if_pos c] at h
    exact ⟨fun c => k_tz62 (by rw [if_pos c] at h; exact h), fun c => k_tz62 (by rw [if_neg c] at h; exact h)⟩
  · rw [if_neg c] at h
    exact ⟨fun (c : shI a 8 ≤ 16) => k_tz62 (by rw [if_pos c] at h; exact h), fun (c : ¬ shI a 8 ≤ 16) => k_tz62 (by rw [if_neg c] at h; exact h)⟩
theorem k_tz {P : jM → Int32 → Prop} {a : Int32} (h : P M (jTz ((a ^^^ (-1)) &&& (a - 1)))) : JC x tb mJ6_numberOfTrailingZeros_0f7a4 d [.int a] M (jI P) := by
  refine b_J6_numberOfTrailingZeros_0f7a4 ?_
  unfold jTz at h
  refine ⟨fun c => ?_, fun c => ?_⟩
  · rw [if_pos c] at h
    exact ⟨fun c => k_tz34 (by rw [if_pos c] at h; exact h), fun c => k_tz34 (by rw [if_neg c] at h; exact h)⟩
  · rw [if_neg c] at h
    exact h
theorem k_lz61 {P : jM → Int32 → Prop} {a n : Int32} (h : P M (lz61 a n)) : JW x tb mJ6_numberOfLeadingZeros_0f7a4 d (jI P) 61 [(0, .int a), (1, .int n)] [] M := by
  refine b_J6_numberOfLeadingZeros_0f7a4_61 ?_
  unfold lz61 at h
  exact ⟨fun c => by rw [if_pos c] at h; exact h, fun c => by rw [if_neg c] at h; exact h⟩
theorem k_lz33 {P : jM → Int32 → Prop} {a n : Int32} (h : P M (lz33 a n)) : JW x tb mJ6_numberOfLeadingZeros_0f7a4 d (jI P) 33 [(0, .int a), (1, .int n)] [] M := by
  refine b_J6_numberOfLeadingZeros_0f7a4_33 ?_
  unfold lz33 at h
  refine ⟨fun c => ?_, fun c => ?_⟩
  · rw [if_pos c] at h
    exact ⟨fun c => k_lz61 (by rw [if_pos c] at h; exact h), fun c => k_lz61 (by rw [if_neg c] at h; exact h)⟩
  · rw [if_neg c] at h
    exact ⟨fun (c : shI a 8 < 16) => k_lz61 (by rw [if_pos c] at h; exact h), fun (c : ¬ shI a 8 < 16) => k_lz61 (by rw [if_neg c] at h; exact h)⟩
theorem k_lz {P : jM → Int32 → Prop} {a : Int32} (h : P M (jLz a)) : JC x tb mJ6_numberOfLeadingZeros_0f7a4 d [.int a] M (jI P) := by
  refine b_J6_numberOfLeadingZeros_0f7a4 ?_
  unfold jLz at h
  refine ⟨fun c => ?_, fun c => ?_⟩
  · rw [if_pos c] at h
    exact ⟨fun c => k_lz33 (by rw [if_pos c] at h; exact h), fun c => k_lz33 (by rw [if_neg c] at h; exact h)⟩
  · rw [if_neg c] at h
    exact ⟨fun c => by rw [if_neg c] at h; exact h, fun c => by rw [if_pos c] at h; exact h⟩
/-- t is the lowest bit of n -/
def qLb (n t : Nat) : Prop := n.testBit t = true ∧ ∀ j, j < t → n.testBit j = false
theorem qLb_split {n t : Nat} (h : qLb n t) : ∃ m, n = 2 ^ (t + 1) * m + 2 ^ t := by
  refine ⟨n / 2 ^ (t + 1), ?_⟩
  have e : n % 2 ^ (t + 1) = 2 ^ t := by
    apply Nat.eq_of_testBit_eq
    intro i
    rw [Nat.testBit_mod_two_pow, Nat.testBit_two_pow]
    rcases Nat.lt_or_ge i t with q | q
    · rw [h.2 i q, Bool.and_false, decide_eq_false (by omega)]
    · by_cases e : i = t
      · rw [e, h.1, decide_eq_true (by omega), decide_eq_true rfl]; rfl
      · rw [decide_eq_false (by omega), decide_eq_false (by omega)]; rfl
  have := Nat.div_add_mod n (2 ^ (t + 1))
  rw [e] at this
  exact this.symm
theorem qLb_pred {n t : Nat} (h : qLb n t) (i : Nat) : (n - 1).testBit i = (decide (i < t) || (decide (t < i) && n.testBit i)) := by
  obtain ⟨m, e⟩ := qLb_split h
  have p0 := Nat.two_pow_pos t
  have p1 : 2 ^ (t + 1) = 2 * 2 ^ t := by rw [Nat.pow_succ, Nat.mul_comm]
  have e1 : n - 1 = 2 ^ (t + 1) * m + (2 ^ t - 1) := by omega
  rw [e1, Nat.testBit_two_pow_mul_add _ (by omega), e, Nat.testBit_two_pow_mul_add _ (by omega)]
  rcases Nat.lt_or_ge i t with q | q
  · rw [if_pos (by omega), Nat.testBit_two_pow_sub_one, decide_eq_true q]; rfl
  · by_cases u : i = t
    · rw [if_pos (by omega), Nat.testBit_two_pow_sub_one, decide_eq_false (by omega), decide_eq_false (by omega)]; rfl
    · rw [if_neg (by omega), if_neg (by omega), decide_eq_false (by omega), decide_eq_true (show t < i by omega)]; rfl
theorem qLb_clear {n t : Nat} (h : qLb n t) (i : Nat) : (n &&& (n - 1)).testBit i = (n.testBit i && !decide (i = t)) := by
  rw [Nat.testBit_and, qLb_pred h]
  rcases Nat.lt_or_ge i t with q | q
  · rw [h.2 i q]; rfl
  · by_cases u : i = t
    · rw [u, decide_eq_false (Nat.lt_irrefl t), decide_eq_true rfl]; simp
    · rw [decide_eq_false (show ¬ i < t by omega), decide_eq_true (show t < i by omega), decide_eq_false u]; simp
theorem m1_xor : (-1 : Int32) = nI (2 ^ 32 - 1) := by decide +kernel
theorem qLb_i {n t : Nat} (h : qLb n t) (hn : n < 2 ^ 31) : (nI n ^^^ (-1)) &&& (nI n - 1) = nI (2 ^ t - 1) := by
  have ht := bit_lt hn h.1
  have n1 : 1 ≤ n := Nat.pos_of_ne_zero (fun e => by have := h.1; rw [e, Nat.zero_testBit] at this; cases this)
  have e1 : nI n - 1 = nI (n - 1) := pk_sub n1
  rw [e1, m1_xor, fb_xorI, fa_and]
  congr 1
  apply Nat.eq_of_testBit_eq
  intro i
  rw [Nat.testBit_and, Nat.testBit_xor, qLb_pred h, Nat.testBit_two_pow_sub_one, Nat.testBit_two_pow_sub_one]
  rcases Nat.lt_or_ge i t with q | q
  · rw [h.2 i q, decide_eq_true (show i < 32 by omega), decide_eq_true q]; rfl
  · by_cases u : i = t
    · rw [u, decide_eq_false (Nat.lt_irrefl t)]; simp
    · rw [decide_eq_false (show ¬ i < t by omega)]
      cases v : n.testBit i
      · simp
      · have := bit_lt hn v
        rw [decide_eq_true (show i < 32 by omega)]; simp
theorem k_ntz {P : jM → Int32 → Prop} {n t : Nat} (hl : qLb n t) (hn : n < 2 ^ 31) (h : P M (nI t)) : JC x tb mJ6_numberOfTrailingZeros_0f7a4 d [.int (nI n)] M (jI P) := by
  refine k_tz ?_
  rw [qLb_i hl hn, jTz_pow t (bit_lt hn hl.1)]
  exact h
theorem qLb_ex {n : Nat} (h : ¬ n = 0) : ∃ t, qLb n t := by
  obtain ⟨k, h1, h2⟩ := pk_least (fun c => n.testBit c = true) (ne0_bit.mp h)
  exact ⟨k, h1, fun j hj => by have := h2 j hj; revert this; cases n.testBit j <;> simp⟩
theorem qLb_one {n t u : Nat} (h : qLb n t) (h2 : qLb n u) : t = u := by
  rcases Nat.lt_trichotomy t u with q | q | q
  · have := h2.2 t q; rw [h.1] at this; cases this
  · exact q
  · have := h.2 u q; rw [h2.1] at this; cases this
/-- t is the highest bit of n -/
def qHi (n t : Nat) : Prop := 2 ^ t ≤ n ∧ n < 2 ^ (t + 1)
theorem qHi_div {n t : Nat} (k : Nat) (h : qHi n t) (hk : k ≤ t) : qHi (n / 2 ^ k) (t - k) := by
  have e1 : 2 ^ t = 2 ^ (t - k) * 2 ^ k := by rw [← Nat.pow_add]; congr 1; omega
  have e2 : 2 ^ (t + 1) = 2 ^ (t - k + 1) * 2 ^ k := by rw [← Nat.pow_add]; congr 1; omega
  refine ⟨(Nat.le_div_iff_mul_le (Nat.two_pow_pos k)).mpr (by rw [← e1]; exact h.1), (Nat.div_lt_iff_lt_mul (Nat.two_pow_pos k)).mpr (by rw [← e2]; exact h.2)⟩
theorem qHi_lt {n t : Nat} (h : qHi n t) {k : Nat} (hn : n < 2 ^ k) : t < k := by
  apply Classical.byContradiction
  intro c
  have := Nat.pow_le_pow_right (n := 2) (by decide) (show k ≤ t by omega)
  have := h.1
  omega
theorem qHi_ge {n t : Nat} (h : qHi n t) {k : Nat} (hn : ¬ n < 2 ^ k) : k ≤ t := by
  apply Classical.byContradiction
  intro c
  have := Nat.pow_le_pow_right (n := 2) (by decide) (show t + 1 ≤ k by omega)
  have := h.2
  omega
theorem shI_N {n : Nat} (hn : n < 2 ^ 31) (s : Int32) (k : Nat) (hs : ((s.toUInt32 &&& Int32.toUInt32 31).toBitVec % 32).toNat = k) : shI (nI n) s = nI (n / 2 ^ k) := pk_ushrN (Nat.lt_trans hn (by decide)) s k hs
theorem nI_m {a b : Nat} {c : Int32} (h : b ≤ a) (hc : c = -(nI b)) : nI a + c = nI (a - b) := by
  rw [hc, ← pk_sub h, Int32.sub_eq_add_neg]
theorem if_ltK {α : Type} {m : Nat} (K : Nat) {k : Int32} {a b : α} (hk : k = nI K) (h : m < K) (hK : K < 2 ^ 31) : (if nI m < k then a else b) = a := by
  subst hk; exact if_pos (nI_lt h hK)
theorem if_nltK {α : Type} {m : Nat} (K : Nat) {k : Int32} {a b : α} (hk : k = nI K) (h : K ≤ m) (hm : m < 2 ^ 31) : (if nI m < k then a else b) = b := by
  subst hk; exact if_neg (nI_nlt h hm)
theorem lz61_N {m u N : Nat} (h : qHi m u) (hu : u < 4) (hN : 3 ≤ N) (hN2 : N ≤ 31) : lz61 (nI m) (nI N) = nI (N - u) := by
  have m16 : m < 16 := Nat.lt_of_lt_of_le h.2 (show 2 ^ (u + 1) ≤ 2 ^ 4 from Nat.pow_le_pow_right (by decide) (by omega))
  have div_lt : ∀ k, m / k < 2 ^ 31 := fun k => Nat.lt_of_le_of_lt (Nat.div_le_self _ _) (by omega)
  unfold lz61
  rcases (show u = 0 ∨ u = 1 ∨ u = 2 ∨ u = 3 by omega) with rfl | rfl | rfl | rfl
  · rw [if_ltK (k := 4) 4 rfl (by have := h.2; omega) (by decide), shI_N (by omega) 1 1 rfl, pk_sub (by have := h.2; omega)]
    congr 1; have := h.1; have := h.2; omega
  · rw [if_ltK (k := 4) 4 rfl (by have := h.2; omega) (by decide), shI_N (by omega) 1 1 rfl, pk_sub (by have := h.2; omega)]
    congr 1; have := h.1; have := h.2; omega
  · rw [if_nltK (k := 4) 4 rfl (by have := h.1; omega) (by omega), shI_N (by omega) 2 2 rfl, shI_N (div_lt _) 1 1 rfl, nI_m (b := 2) (c := -2) (by omega) rfl, pk_sub (by have := h.2; omega)]
    congr 1; have := h.1; have := h.2; omega
  · rw [if_nltK (k := 4) 4 rfl (by have := h.1; omega) (by omega), shI_N (by omega) 2 2 rfl, shI_N (div_lt _) 1 1 rfl, nI_m (b := 2) (c := -2) (by omega) rfl, pk_sub (by have := h.2; omega)]
    congr 1; have := h.1; have := h.2; omega
theorem lz33_N {m u N : Nat} (h : qHi m u) (hu : u < 16) (hN : 15 ≤ N) (hN2 : N ≤ 31) : lz33 (nI m) (nI N) = nI (N - u) := by
  have m16 : m < 65536 := Nat.lt_of_lt_of_le h.2 (show 2 ^ (u + 1) ≤ 2 ^ 16 from Nat.pow_le_pow_right (by decide) (by omega))
  have div_lt : ∀ k, m / k < 2 ^ 31 := fun k => Nat.lt_of_le_of_lt (Nat.div_le_self _ _) (by omega)
  unfold lz33
  by_cases c : m < 256
  · rw [if_ltK (k := 256) 256 rfl c (by decide)]
    by_cases e : m < 16
    · rw [if_ltK (k := 16) 16 rfl e (by decide), lz61_N h (qHi_lt h (k := 4) e) (by omega) hN2]
    · have g := qHi_ge h (k := 4) e
      have g8 := qHi_lt h (k := 8) c
      rw [if_nltK (k := 16) 16 rfl (by omega) (by omega), shI_N (by omega) 4 4 rfl, nI_m (b := 4) (c := -4) (by omega) rfl, lz61_N (qHi_div 4 h g) (by omega) (by omega) (by omega)]
      congr 1; omega
  · have g := qHi_ge h (k := 8) c
    rw [if_nltK (k := 256) 256 rfl (by omega) (by omega), shI_N (by omega) 8 8 rfl]
    have h8 := qHi_div 8 h g
    by_cases e : m / 2 ^ 8 < 16
    · have g2 := qHi_lt h8 (k := 4) e
      rw [if_ltK (k := 16) 16 rfl e (by decide), nI_m (b := 8) (c := -8) (by omega) rfl, lz61_N h8 g2 (by omega) (by omega)]
      congr 1; omega
    · have g2 := qHi_ge h8 (k := 4) e
      rw [if_nltK (k := 16) 16 rfl (by omega) (div_lt _), shI_N (div_lt _) 4 4 rfl, nI_m (b := 8) (c := -8) (by omega) rfl, nI_m (b := 4) (c := -4) (by omega) rfl, lz61_N (qHi_div 4 h8 g2) (by omega) (by omega) (by omega)]
      congr 1; omega
theorem jLz_N {n t : Nat} (h : qHi n t) (ht : t < 31) : jLz (nI n) = nI (31 - t) := by
  have hn : n < 2 ^ 31 := Nat.lt_of_lt_of_le h.2 (Nat.pow_le_pow_right (by decide) (by omega))
  have n0 : 0 < n := Nat.lt_of_lt_of_le (Nat.two_pow_pos t) h.1
  unfold jLz
  rw [if_pos (show (0 : Int32) < nI n from nI_lt (a := 0) n0 hn)]
  by_cases c : n < 65536
  · rw [if_ltK (k := 65536) 65536 rfl c (by decide)]
    exact lz33_N (N := 31) h (qHi_lt h (k := 16) c) (by omega) (by omega)
  · have g := qHi_ge h (k := 16) c
    rw [if_nltK (k := 65536) 65536 rfl (by omega) hn, shI_N hn 16 16 rfl]
    have := lz33_N (N := 15) (qHi_div 16 h g) (by omega) (by omega) (by omega)
    rw [show (31 : Int32) + (-16) = nI 15 from by decide +kernel, this]
    congr 1; omega
theorem k_nlz {P : jM → Int32 → Prop} {n t : Nat} (hl : qHi n t) (ht : t < 31) (h : P M (nI (31 - t))) : JC x tb mJ6_numberOfLeadingZeros_0f7a4 d [.int (nI n)] M (jI P) := by
  refine k_lz ?_
  rw [jLz_N hl ht]
  exact h
theorem qHi_ex {n : Nat} (h : ¬ n = 0) : ∃ t, qHi n t := ⟨n.log2, Nat.log2_self_le h, Nat.lt_log2_self⟩
theorem qHi_bit {n t : Nat} (h : qHi n t) : n.testBit t = true ∧ ∀ j, n.testBit j = true → j ≤ t :=
  ⟨Nat.testBit_of_two_pow_le_and_two_pow_add_one_gt h.1 h.2, fun j hj => Nat.lt_succ_iff.mp (bit_lt h.2 hj)⟩
end BT2
