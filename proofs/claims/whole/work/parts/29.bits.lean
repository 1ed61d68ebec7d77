/-! bits of a set, counted; the lowest, the highest -/
def qPop (n : Nat) : Nat := fb_ct n.testBit 32
def u1 (a : Int32) : Int32 := a - (((a.toUInt32 >>> ((1 : Int32).toUInt32 &&& Int32.toUInt32 31)).toInt32) &&& (1431655765 : Int32))
def u2 (a : Int32) : Int32 := (a &&& (858993459 : Int32)) + (((a.toUInt32 >>> ((2 : Int32).toUInt32 &&& Int32.toUInt32 31)).toInt32) &&& (858993459 : Int32))
def u3 (a : Int32) : Int32 := (a + ((a.toUInt32 >>> ((4 : Int32).toUInt32 &&& Int32.toUInt32 31)).toInt32)) &&& (252645135 : Int32)
def u4 (a : Int32) : Int32 := a + ((a.toUInt32 >>> ((8 : Int32).toUInt32 &&& Int32.toUInt32 31)).toInt32)
def u5 (a : Int32) : Int32 := a + ((a.toUInt32 >>> ((16 : Int32).toUInt32 &&& Int32.toUInt32 31)).toInt32)
def jBC (a : Int32) : Int32 := u5 (u4 (u3 (u2 (u1 a)))) &&& (63 : Int32)
theorem and256 (a b c e : Nat) (hb : b < 256) (he : e < 256) : (256 * a + b) &&& (256 * c + e) = 256 * (a &&& c) + (b &&& e) := by
  apply Nat.eq_of_testBit_eq
  intro i
  have h1 : b &&& e < 2 ^ 8 := Nat.and_lt_two_pow _ he
  rw [Nat.testBit_and, show (256 : Nat) = 2 ^ 8 from rfl, Nat.testBit_two_pow_mul_add _ hb, Nat.testBit_two_pow_mul_add _ he, Nat.testBit_two_pow_mul_add _ h1]
  split
  · rw [Nat.testBit_and]
  · rw [Nat.testBit_and]
theorem v1 : ∀ b, b < 256 → ∀ r, r < 2 → ((128 * r + b / 2) &&& 85) = ((b / 2) &&& 85) := by decide +kernel
theorem v2 : ∀ b, b < 256 → ∀ r, r < 4 → ((64 * r + b / 4) &&& 51) = ((b / 4) &&& 51) := by decide +kernel
def w1 (b : Nat) : Nat := b - ((b / 2) &&& 85)
def w2 (b : Nat) : Nat := (b &&& 51) + ((b / 4) &&& 51)
theorem w1_lt : ∀ b, b < 256 → w1 b < 256 := by decide +kernel
theorem w2_lt : ∀ b, b < 256 → w2 (w1 b) % 16 ≤ 4 ∧ w2 (w1 b) / 16 ≤ 4 ∧ w2 (w1 b) % 16 + w2 (w1 b) / 16 = fb_ct b.testBit 8 ∧ fb_ct b.testBit 8 ≤ 8 := by decide +kernel
theorem s1s (a b m : Nat) (hb : b < 256) : (256 * a + b) - (((256 * a + b) / 2) &&& (256 * m + 85)) = 256 * (a - ((a / 2) &&& m)) + w1 b := by
  have e : (256 * a + b) / 2 = 256 * (a / 2) + (128 * (a % 2) + b / 2) := by omega
  rw [e, and256 _ _ _ _ (by omega) (by omega), v1 b hb _ (by omega)]
  have h1 : (a / 2) &&& m ≤ a / 2 := Nat.and_le_left
  have h2 : (b / 2) &&& 85 ≤ b / 2 := Nat.and_le_left
  unfold w1
  omega
theorem s2s (a b m : Nat) (hb : b < 256) : ((256 * a + b) &&& (256 * m + 51)) + (((256 * a + b) / 4) &&& (256 * m + 51)) = 256 * ((a &&& m) + ((a / 4) &&& m)) + w2 b := by
  have e : (256 * a + b) / 4 = 256 * (a / 4) + (64 * (a % 4) + b / 4) := by omega
  rw [e, and256 _ _ _ _ (by omega) (by omega), and256 _ _ _ _ (by omega) (by omega), v2 b hb _ (by omega)]
  unfold w2
  omega
theorem u1N {n : Nat} (h : n < 2 ^ 32) : u1 (nI n) = nI (n - ((n / 2) &&& 1431655765)) := by
  unfold u1
  rw [pk_ushrN h 1 1 (by decide +kernel), fa_lit 1431655765, fa_and, pk_sub (Nat.le_trans Nat.and_le_left (Nat.div_le_self _ _))]
theorem u2N {n : Nat} (h : n < 2 ^ 32) : u2 (nI n) = nI ((n &&& 858993459) + ((n / 4) &&& 858993459)) := by
  unfold u2
  rw [pk_ushrN h 2 2 (by decide +kernel), fa_lit 858993459, fa_and, fa_and, nI_add]
theorem u3N {n : Nat} (h : n < 2 ^ 32) : u3 (nI n) = nI ((n + n / 16) &&& 252645135) := by
  unfold u3
  rw [pk_ushrN h 4 4 (by decide +kernel), fa_lit 252645135, nI_add, fa_and]
theorem u4N {n : Nat} (h : n < 2 ^ 32) : u4 (nI n) = nI (n + n / 256) := by
  unfold u4
  rw [pk_ushrN h 8 8 (by decide +kernel), nI_add]
theorem u5N {n : Nat} (h : n < 2 ^ 32) : u5 (nI n) = nI (n + n / 65536) := by
  unfold u5
  rw [pk_ushrN h 16 16 (by decide +kernel), nI_add]
theorem pop4 (b0 b1 b2 b3 : Nat) (h0 : b0 < 256) (h1 : b1 < 256) (h2 : b2 < 256) (h3 : b3 < 256) : qPop (256 * (256 * (256 * b3 + b2) + b1) + b0) = fb_ct b0.testBit 8 + fb_ct b1.testBit 8 + fb_ct b2.testBit 8 + fb_ct b3.testBit 8 := by
  unfold qPop
  have t : ∀ (a b k : Nat), b < 256 → (256 * a + b).testBit k = if k < 8 then b.testBit k else a.testBit (k - 8) := fun a b k hb => by
    rw [show (256 : Nat) = 2 ^ 8 from rfl, Nat.testBit_two_pow_mul_add _ hb]
  have st : ∀ (a b m : Nat), b < 256 → fb_ct (256 * a + b).testBit (8 + m) = fb_ct b.testBit 8 + fb_ct a.testBit m := fun a b m hb => by
    rw [fb_ct_split]
    congr 1
    · exact fb_ct_cong (fun k hk => by rw [t a b k hb, if_pos hk])
    · exact fb_ct_cong (fun k _ => by rw [t a b _ hb, if_neg (by omega)]; congr 1; omega)
  rw [show 32 = 8 + (8 + (8 + 8)) from rfl, st _ _ _ h0, st _ _ _ h1, st _ _ _ h2]
  omega
theorem jBC_pop {n : Nat} (h : n < 2 ^ 32) : jBC (nI n) = nI (qPop n) := by
  obtain ⟨b0, b1, b2, b3, h0, h1, h2, h3, rfl⟩ : ∃ b0 b1 b2 b3, b0 < 256 ∧ b1 < 256 ∧ b2 < 256 ∧ b3 < 256 ∧ n = 256 * (256 * (256 * b3 + b2) + b1) + b0 := ⟨n % 256, n / 256 % 256, n / 65536 % 256, n / 16777216, by omega, by omega, by omega, by omega, by omega⟩
  have m1 : (1431655765 : Nat) = 256 * (256 * (256 * (256 * 0 + 85) + 85) + 85) + 85 := rfl
  have m2 : (858993459 : Nat) = 256 * (256 * (256 * (256 * 0 + 51) + 51) + 51) + 51 := rfl
  have m3 : (252645135 : Nat) = 256 * (256 * (256 * 15 + 15) + 15) + 15 := rfl
  have z1 : 0 - ((0 / 2) &&& 0) = 0 := rfl
  have y1 : b3 - ((b3 / 2) &&& (256 * 0 + 85)) = w1 b3 := rfl
  have l0 := w1_lt b0 h0
  have l1 := w1_lt b1 h1
  have l2 := w1_lt b2 h2
  have l3 := w1_lt b3 h3
  have y2 : (w1 b3 &&& (256 * 0 + 51)) + ((w1 b3 / 4) &&& (256 * 0 + 51)) = w2 (w1 b3) := rfl
  unfold jBC
  rw [u1N h, m1, s1s _ _ _ h0, s1s _ _ _ h1, s1s _ _ _ h2, y1, u2N (by omega), m2, s2s _ _ _ l0, s2s _ _ _ l1, s2s _ _ _ l2, y2]
  obtain ⟨a0, c0, e0, g0⟩ := w2_lt b0 h0
  obtain ⟨a1, c1, e1, g1⟩ := w2_lt b1 h1
  obtain ⟨a2, c2, e2, g2⟩ := w2_lt b2 h2
  obtain ⟨a3, c3, e3, g3⟩ := w2_lt b3 h3
  rw [pop4 _ _ _ _ h0 h1 h2 h3, ← e0, ← e1, ← e2, ← e3]
  rw [← e0] at g0
  rw [← e1] at g1
  rw [← e2] at g2
  rw [← e3] at g3
  generalize w2 (w1 b0) = p0 at *
  generalize w2 (w1 b1) = p1 at *
  generalize w2 (w1 b2) = p2 at *
  generalize w2 (w1 b3) = p3 at *
  clear e0 e1 e2 e3 l0 l1 l2 l3 h m1 m2 z1 y1 y2
  rw [u3N (by omega), m3]
  have e : 256 * (256 * (256 * p3 + p2) + p1) + p0 + (256 * (256 * (256 * p3 + p2) + p1) + p0) / 16 = 256 * (256 * (256 * (p3 + p3 / 16) + (p2 + p2 / 16 + 16 * (p3 % 16))) + (p1 + p1 / 16 + 16 * (p2 % 16))) + (p0 + p0 / 16 + 16 * (p1 % 16)) := by omega
  have mk : ∀ q : Nat, q &&& 15 = q % 16 := fun q => Nat.and_two_pow_sub_one_eq_mod q 4
  rw [e, and256 _ _ _ _ (by omega) (by omega), and256 _ _ _ _ (by omega) (by omega), and256 _ _ _ _ (by omega) (by omega), mk, mk, mk, mk]
  have f0 : (p0 + p0 / 16 + 16 * (p1 % 16)) % 16 = p0 % 16 + p0 / 16 := by omega
  have f1 : (p1 + p1 / 16 + 16 * (p2 % 16)) % 16 = p1 % 16 + p1 / 16 := by omega
  have f2 : (p2 + p2 / 16 + 16 * (p3 % 16)) % 16 = p2 % 16 + p2 / 16 := by omega
  have f3 : (p3 + p3 / 16) % 16 = p3 % 16 + p3 / 16 := by omega
  rw [f0, f1, f2, f3]
  generalize p0 % 16 + p0 / 16 = r0 at *
  generalize p1 % 16 + p1 / 16 = r1 at *
  generalize p2 % 16 + p2 / 16 = r2 at *
  generalize p3 % 16 + p3 / 16 = r3 at *
  clear f0 f1 f2 f3 e mk
  have d1 : (256 * (256 * (256 * r3 + r2) + r1) + r0) / 256 = 256 * (256 * r3 + r2) + r1 := by omega
  rw [u4N (by omega), d1, u5N (by omega)]
  have d2 : (256 * (256 * (256 * r3 + r2) + r1) + r0 + (256 * (256 * r3 + r2) + r1)) / 65536 = 256 * r3 + r2 + r3 := by omega
  rw [d2, fa_lit 63, show (63 : Nat) = 2 ^ 6 - 1 from rfl, fa_mask]
  congr 1
  have d3 : 256 * (256 * (256 * r3 + r2) + r1) + r0 + (256 * (256 * r3 + r2) + r1) + (256 * r3 + r2 + r3) = 64 * (4 * (256 * (256 * r3 + r2) + r1) + 4 * (256 * r3 + r2) + 4 * r3) + (r0 + r1 + r2 + r3) := by omega
  rw [d3, Nat.mul_add_mod, Nat.mod_eq_of_lt (by omega)]
theorem k_bitCount {x : jX} {tb : jT} {d : Nat} {M : jM} {P : jM → Int32 → Prop} {n : Nat} (hn : n < 2 ^ 32) (h : P M (nI (qPop n))) : JC x tb mJ6_bitCount_0f7a4 d [.int (nI n)] M (jI P) := by
  rw [← jBC_pop hn] at h
  exact b_J6_bitCount_0f7a4 h
