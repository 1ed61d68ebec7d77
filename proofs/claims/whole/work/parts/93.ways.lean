/-! how many ways: sums over sets of cells; the states of the class's count -/
noncomputable def qB (p : Prop) : Bool := @decide p (Classical.propDecidable p)
theorem qB_t {p : Prop} : qB p = true ↔ p := by unfold qB; exact @decide_eq_true_iff _ (Classical.propDecidable _)
theorem qB_cong {p q : Prop} (h : p ↔ q) : qB p = qB q := by rw [propext h]
def tPr (b : Nat → Nat) (R : Nat) : Nat → Nat
  | 0 => 1
  | c + 1 => tPr b R c * (if R.testBit c then 1 else b c)
noncomputable def tS (b : Nat → Nat) (n : Nat) (p : Nat → Prop) : Nat := fb_sm (fun R => if qB (p R) then tPr b R n else 0) (2 ^ n)
theorem tPr_cong {b : Nat → Nat} {R R' : Nat} : ∀ {n : Nat}, (∀ c, c < n → R.testBit c = R'.testBit c) → tPr b R n = tPr b R' n
  | 0, _ => rfl
  | n + 1, h => by
    rw [tPr, tPr, tPr_cong (fun c hc => h c (by omega)), h n (by omega)]
theorem tPr_zero {b : Nat → Nat} {R c : Nat} (hb : b c = 0) (hR : R.testBit c = false) : ∀ {n : Nat}, c < n → tPr b R n = 0
  | 0, h => absurd h (Nat.not_lt_zero _)
  | n + 1, h => by
    rw [tPr]
    by_cases e : c = n
    · rw [← e, hR, hb]; simp
    · rw [tPr_zero hb hR (by omega), Nat.zero_mul]
theorem tS_cong {b : Nat → Nat} {n : Nat} {p q : Nat → Prop} (h : ∀ R, R < 2 ^ n → tPr b R n = 0 ∨ (p R ↔ q R)) : tS b n p = tS b n q := by
  unfold tS
  refine fb_sm_cong (fun R hR => ?_)
  rcases h R hR with e | e
  · rw [e]; simp
  · rw [qB_cong e]
theorem tS_iff {b : Nat → Nat} {n : Nat} {p q : Nat → Prop} (h : ∀ R, R < 2 ^ n → (p R ↔ q R)) : tS b n p = tS b n q := tS_cong (fun R hR => Or.inr (h R hR))
theorem tS_no {b : Nat → Nat} {n : Nat} {p : Nat → Prop} (h : ∀ R, R < 2 ^ n → ¬ p R) : tS b n p = 0 := by
  have : tS b n p = fb_sm (fun _ => 0) (2 ^ n) := fb_sm_cong (fun R hR => by
    rw [if_neg (fun q => h R hR (qB_t.mp q))])
  rw [this, fb_sm_const, Nat.mul_zero]
theorem tS_or {b : Nat → Nat} {n : Nat} {p q : Nat → Prop} (h : ∀ R, R < 2 ^ n → ¬ (p R ∧ q R)) : tS b n (fun R => p R ∨ q R) = tS b n p + tS b n q := by
  unfold tS
  rw [← fb_sm_add]
  refine fb_sm_cong (fun R hR => ?_)
  have := h R hR
  by_cases e1 : p R
  · have e2 : ¬ q R := fun e2 => this ⟨e1, e2⟩
    rw [if_pos (qB_t.mpr (Or.inl e1)), if_pos (qB_t.mpr e1), if_neg (fun u => e2 (qB_t.mp u)), Nat.add_zero]
  · by_cases e2 : q R
    · rw [if_pos (qB_t.mpr (Or.inr e2)), if_pos (qB_t.mpr e2), if_neg (fun u => e1 (qB_t.mp u)), Nat.zero_add]
    · rw [if_neg (fun u => (qB_t.mp u).elim e1 e2), if_neg (fun u => e1 (qB_t.mp u)), if_neg (fun u => e2 (qB_t.mp u))]
theorem add_bit {n R c : Nat} (hR : R < 2 ^ n) : (2 ^ n + R).testBit c = (R.testBit c || decide (c = n)) := by
  have e : 2 ^ n + R = 2 ^ n * 1 + R := by rw [Nat.mul_one]
  rw [e, Nat.testBit_two_pow_mul_add _ hR]
  rcases Nat.lt_or_ge c n with q | q
  · rw [if_pos q, decide_eq_false (by omega), Bool.or_false]
  · rw [if_neg (by omega), Nat.testBit_lt_two_pow (Nat.lt_of_lt_of_le hR (Nat.pow_le_pow_right (by decide) q)), Bool.false_or]
    by_cases u : c = n
    · rw [u, Nat.sub_self, decide_eq_true rfl]; rfl
    · rw [decide_eq_false u, Nat.testBit_lt_two_pow (show 1 < 2 ^ (c - n) from Nat.lt_of_lt_of_le (by decide) (Nat.pow_le_pow_right (n := 2) (by decide) (show 1 ≤ c - n by omega)))]
theorem tS_step {b : Nat → Nat} {n : Nat} {p : Nat → Prop} : tS b (n + 1) p = b n * tS b n p + tS b n (fun R => p (2 ^ n + R)) := by
  unfold tS
  rw [show 2 ^ (n + 1) = 2 ^ n + 2 ^ n by rw [Nat.pow_succ]; omega, fb_sm_split]
  congr 1
  · have : ∀ k, k ≤ 2 ^ n → fb_sm (fun R => if qB (p R) then tPr b R (n + 1) else 0) k = b n * fb_sm (fun R => if qB (p R) then tPr b R n else 0) k := by
      intro k
      induction k with
      | zero => intro _; rfl
      | succ k ih =>
        intro hk
        rw [fb_sm_succ, fb_sm_succ, ih (by omega), Nat.mul_add]
        congr 1
        have : k.testBit n = false := Nat.testBit_lt_two_pow (by omega)
        rw [tPr, this]
        cases qB (p k)
        · simp
        · simp [Nat.mul_comm]
    exact this _ (Nat.le_refl _)
  · refine fb_sm_cong (fun R hR => ?_)
    have e1 : (2 ^ n + R).testBit n = true := by rw [add_bit hR, decide_eq_true rfl, Bool.or_true]
    have e2 : tPr b (2 ^ n + R) n = tPr b R n := tPr_cong (fun c hc => by rw [add_bit hR, decide_eq_false (by omega), Bool.or_false])
    rw [tPr, e1, e2]
    simp
