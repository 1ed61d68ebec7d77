/-! towns of the model: inclusion and exclusion -/
def tN0 (b : Nat → Nat) (A : Nat → Bool) : Nat → Nat
  | 0 => 1
  | c + 1 => tN0 b A c * (b c + (if A c then 0 else 1))
theorem tN0_cong {b : Nat → Nat} {A A' : Nat → Bool} : ∀ {n : Nat}, (∀ c, c < n → A c = A' c) → tN0 b A n = tN0 b A' n
  | 0, _ => rfl
  | n + 1, h => by rw [tN0, tN0, tN0_cong (fun c hc => h c (by omega)), h n (by omega)]
theorem tS_avoid {b : Nat → Nat} {A : Nat → Bool} : ∀ n, tS b n (fun R => ∀ c, c < n → A c = true → R.testBit c = false) = tN0 b A n
  | 0 => by
    unfold tS
    show 0 + (if qB _ = true then tPr b 0 0 else 0) = 1
    rw [if_pos (qB_t.mpr (fun c hc => absurd hc (Nat.not_lt_zero _)))]
    rfl
  | n + 1 => by
    have ih := tS_avoid (b := b) (A := A) n
    rw [tS_step, tN0, Nat.mul_add, ← ih, Nat.mul_comm]
    congr 1
    · congr 1
      refine tS_iff (fun R hR => ⟨fun h c hc => h c (by omega), fun h c hc a => ?_⟩)
      by_cases e : c = n
      · rw [e]; exact Nat.testBit_lt_two_pow hR
      · exact h c (by omega) a
    · cases e : A n
      · rw [if_neg (by decide), Nat.mul_one]
        refine tS_iff (fun R hR => ⟨fun h c hc a => ?_, fun h c hc a => ?_⟩)
        · have := h c (by omega) a
          rw [add_bit hR, decide_eq_false (by omega), Bool.or_false] at this
          exact this
        · by_cases q : c = n
          · rw [q, e] at a; cases a
          · rw [add_bit hR, decide_eq_false q, Bool.or_false]; exact h c (by omega) a
      · rw [if_pos rfl, Nat.mul_zero]
        refine tS_no (fun R hR h => ?_)
        have := h n (by omega) e
        rw [add_bit hR, decide_eq_true rfl, Bool.or_true] at this
        cases this
noncomputable def tX (b : Nat → Nat) (n : Nat) (F : Nat → Nat) (j : Nat) (A : Nat → Bool) : Nat := tS b n (fun R => (∀ c, c < n → A c = true → R.testBit c = false) ∧ ∀ i, i < j → ¬ F i &&& R = 0)
theorem tX_step {b : Nat → Nat} {n : Nat} {F : Nat → Nat} {j : Nat} {A : Nat → Bool} (hF : F j < 2 ^ n) : tX b n F j A = tX b n F (j + 1) A + tX b n F j (fun c => A c || (F j).testBit c) := by
  unfold tX
  rw [← tS_or (fun R _ h => ?_)]
  · refine tS_iff (fun R _ => ?_)
    constructor
    · rintro ⟨h1, h2⟩
      by_cases e : F j &&& R = 0
      · refine Or.inr ⟨fun c hc a => ?_, h2⟩
        rw [Bool.or_eq_true] at a
        rcases a with a | a
        · exact h1 c hc a
        · cases u : R.testBit c
          · rfl
          · exact absurd ⟨a, u⟩ (and0_bit.mp e c)
      · refine Or.inl ⟨h1, fun i hi => ?_⟩
        by_cases q : i = j
        · rw [q]; exact e
        · exact h2 i (by omega)
    · rintro (⟨h1, h2⟩ | ⟨h1, h2⟩)
      · exact ⟨h1, fun i hi => h2 i (by omega)⟩
      · exact ⟨fun c hc a => h1 c hc (show (A c || (F j).testBit c) = true by rw [a]; rfl), h2⟩
  · obtain ⟨⟨_, h2⟩, h3, _⟩ := h
    refine h2 j (by omega) (and0_bit.mpr (fun c ⟨u, v⟩ => ?_))
    have := h3 c (bit_lt hF u) (show (A c || (F j).testBit c) = true by rw [u, Bool.or_true])
    rw [v] at this
    cases this
noncomputable def uF (F : Nat → Nat) (j s c : Nat) : Bool := qB (∃ i, i < j ∧ s.testBit i = true ∧ (F i).testBit c = true)
def sgn (s : Nat) : Int := if qPop s % 2 = 0 then 1 else -1
theorem qPop_add {j s : Nat} (hj : j < 32) (hs : s < 2 ^ j) : qPop (2 ^ j + s) = qPop s + 1 := by
  have e : 2 ^ j + s = s ||| 2 ^ j := Nat.eq_of_testBit_eq (fun c => by rw [add_bit hs, fb_bit_set])
  rw [e]
  exact ct_set hj (Nat.testBit_lt_two_pow hs)
theorem sgn_add {j s : Nat} (hj : j < 32) (hs : s < 2 ^ j) : sgn (2 ^ j + s) = - sgn s := by
  unfold sgn
  rw [qPop_add hj hs]
  by_cases e : qPop s % 2 = 0
  · rw [if_pos e, if_neg (by omega)]
  · rw [if_neg e, if_pos (by omega)]; rfl
theorem in_ex {b : Nat → Nat} {n : Nat} {F : Nat → Nat} : ∀ j, j ≤ 31 → (∀ i, i < j → F i < 2 ^ n) → ∀ A : Nat → Bool, fb_si (fun s => sgn s * (tN0 b (fun c => A c || uF F j s c) n : Int)) (2 ^ j) = (tX b n F j A : Int)
  | 0, _, _, A => by
    have u0 : ∀ s c, uF F 0 s c = false := fun s c => by
      cases e : uF F 0 s c
      · rfl
      · obtain ⟨i, hi, _⟩ := qB_t.mp e
        exact absurd hi (Nat.not_lt_zero _)
    show 0 + sgn 0 * (tN0 b (fun c => A c || uF F 0 0 c) n : Int) = _
    rw [tN0_cong (A' := A) (fun c _ => by rw [u0, Bool.or_false]), ← tS_avoid, show sgn 0 = 1 from by decide +kernel, Int.one_mul, Int.zero_add]
    congr 1
    unfold tX
    exact tS_iff (fun R _ => ⟨fun h => ⟨h, fun i hi => absurd hi (Nat.not_lt_zero _)⟩, fun h => h.1⟩)
  | j + 1, hj, hF, A => by
    have ih := in_ex (b := b) (n := n) (F := F) j (by omega) (fun i hi => hF i (by omega))
    rw [show 2 ^ (j + 1) = 2 ^ j + 2 ^ j by rw [Nat.pow_succ]; omega, fb_si_split]
    have p1 : fb_si (fun s => sgn s * (tN0 b (fun c => A c || uF F (j + 1) s c) n : Int)) (2 ^ j) = fb_si (fun s => sgn s * (tN0 b (fun c => A c || uF F j s c) n : Int)) (2 ^ j) := fb_si_cong (fun s hs => by
      have : ∀ c, uF F (j + 1) s c = uF F j s c := fun c => qB_cong ⟨fun ⟨i, i1, i2, i3⟩ => ⟨i, (by
        by_cases q : i = j
        · rw [q, Nat.testBit_lt_two_pow hs] at i2; cases i2
        · omega), i2, i3⟩, fun ⟨i, i1, i2⟩ => ⟨i, by omega, i2⟩⟩
      rw [tN0_cong (A' := fun c => A c || uF F j s c) (fun c _ => by rw [this])])
    have p2 : fb_si (fun k => sgn (2 ^ j + k) * (tN0 b (fun c => A c || uF F (j + 1) (2 ^ j + k) c) n : Int)) (2 ^ j) = fb_si (fun s => (-1) * (sgn s * (tN0 b (fun c => (fun c => A c || (F j).testBit c) c || uF F j s c) n : Int))) (2 ^ j) := fb_si_cong (fun s hs => by
      rw [sgn_add (by omega) hs]
      have : ∀ c, (A c || uF F (j + 1) (2 ^ j + s) c) = ((A c || (F j).testBit c) || uF F j s c) := fun c => by
        have e : uF F (j + 1) (2 ^ j + s) c = ((F j).testBit c || uF F j s c) := by
          cases f : (F j).testBit c
          · rw [Bool.false_or]
            refine qB_cong ⟨fun ⟨i, i1, i2, i3⟩ => ?_, fun ⟨i, i1, i2, i3⟩ => ⟨i, by omega, by rw [add_bit hs, i2, Bool.true_or], i3⟩⟩
            have ne : i ≠ j := fun q => by rw [q, f] at i3; cases i3
            rw [add_bit hs, decide_eq_false ne, Bool.or_false] at i2
            exact ⟨i, by omega, i2, i3⟩
          · rw [Bool.true_or]
            exact qB_t.mpr ⟨j, by omega, by rw [add_bit hs, decide_eq_true rfl, Bool.or_true], f⟩
        rw [e, Bool.or_assoc]
      rw [tN0_cong (A' := fun c => (A c || (F j).testBit c) || uF F j s c) (fun c _ => this c)]
      rw [Int.neg_mul, Int.neg_one_mul])
    rw [p1, p2, fb_si_mul, ih A, ih (fun c => A c || (F j).testBit c)]
    have st := tX_step (b := b) (A := A) (hF j (by omega))
    rw [st]
    omega
/-- the strips that were asked for, in their order -/
def sLs (pl : qP) (ask : Nat) : Nat → List (Nat × Nat)
  | 0 => []
  | v + 1 => if ask.testBit v then sLs pl ask v ++ (List.range (qSt pl v)).map (fun s => (v, s)) else sLs pl ask v
theorem sLs_mem {pl : qP} {ask : Nat} {p : Nat × Nat} : ∀ n, p ∈ sLs pl ask n ↔ p.1 < n ∧ ask.testBit p.1 = true ∧ p.2 < qSt pl p.1
  | 0 => ⟨fun h => (by cases h), fun h => absurd h.1 (Nat.not_lt_zero _)⟩
  | n + 1 => by
    have ih := sLs_mem (pl := pl) (ask := ask) (p := p) n
    rw [sLs]
    split
    · rename_i a
      rw [List.mem_append, ih, List.mem_map]
      constructor
      · rintro (h | ⟨s, h1, h2⟩)
        · exact ⟨by omega, h.2⟩
        · rw [← h2]; exact ⟨Nat.lt_succ_self n, a, List.mem_range.mp h1⟩
      · rintro ⟨h1, h2, h3⟩
        rcases Nat.lt_or_ge p.1 n with u | u
        · exact Or.inl ⟨u, h2, h3⟩
        · have e : p.1 = n := by omega
          refine Or.inr ⟨p.2, List.mem_range.mpr (by rw [← e]; exact h3), ?_⟩
          rw [← e]
    · rename_i a
      rw [ih]
      refine ⟨fun h => ⟨by omega, h.2⟩, fun h => ⟨?_, h.2⟩⟩
      by_cases e : p.1 = n
      · rw [e] at h; exact absurd h.2.1 a
      · omega
theorem sLs_len {pl : qP} {set : Nat} : ∀ n, (sLs pl (set &&& qk pl) n).length = qSP pl set n
  | 0 => rfl
  | n + 1 => by
    have ih := sLs_len (pl := pl) (set := set) n
    rw [sLs]
    show _ = qSP pl set n + (if (set &&& qk pl).testBit n then qSt pl n else 0)
    split
    · rw [List.length_append, List.length_map, List.length_range, ih]
    · rw [ih, Nat.add_zero]
theorem qSP_mono {pl : qP} {set : Nat} {a : Nat} : ∀ {b : Nat}, a ≤ b → qSP pl set a ≤ qSP pl set b
  | 0, h => by
    have : a = 0 := by omega
    rw [this]; exact Nat.le_refl _
  | b + 1, h => by
    by_cases e : a = b + 1
    · rw [e]; exact Nat.le_refl _
    · have := qSP_mono (pl := pl) (set := set) (a := a) (b := b) (by omega)
      show _ ≤ qSP pl set b + _
      omega
/-- the sum, and what it leaves -/
def tAc (T : Nat → Nat) : Nat → Nat
  | 0 => 0
  | s + 1 => tAc T s + (if qPop s % 2 = 0 then T s % 1000007 else 1000007 - T s % 1000007)
theorem tAc_le (T : Nat → Nat) : ∀ n, tAc T n ≤ n * 1000007
  | 0 => Nat.zero_le _
  | n + 1 => by
    have ih := tAc_le T n
    have : (if qPop n % 2 = 0 then T n % 1000007 else 1000007 - T n % 1000007) ≤ 1000007 := by
      have := Nat.mod_lt (T n) (show 0 < 1000007 by decide)
      split <;> omega
    show tAc T n + _ ≤ (n + 1) * 1000007
    omega
theorem tAc_cg (T : Nat → Nat) : ∀ n, ∃ k : Int, (tAc T n : Int) = fb_si (fun s => sgn s * (T s : Int)) n + 1000007 * k
  | 0 => ⟨0, rfl⟩
  | n + 1 => by
    obtain ⟨k, hk⟩ := tAc_cg T n
    have dm := Nat.div_add_mod (T n) 1000007
    have ml := Nat.mod_lt (T n) (show 0 < 1000007 by decide)
    rw [fb_si_succ]
    show ∃ k' : Int, ((tAc T n + (if qPop n % 2 = 0 then T n % 1000007 else 1000007 - T n % 1000007) : Nat) : Int) = _
    unfold sgn
    by_cases e : qPop n % 2 = 0
    · rw [if_pos e, if_pos e]
      refine ⟨k - ((T n / 1000007 : Nat) : Int), ?_⟩
      rw [Int.natCast_add, hk]
      unfold sgn
      omega
    · rw [if_neg e, if_neg e]
      refine ⟨k + 1 + ((T n / 1000007 : Nat) : Int), ?_⟩
      rw [Int.natCast_add, hk]
      unfold sgn
      omega
theorem tAc_nat {T : Nat → Nat} {n X : Nat} (h : fb_si (fun s => sgn s * (T s : Int)) n = (X : Int)) : tAc T n % 1000007 = X % 1000007 := by
  obtain ⟨k, hk⟩ := tAc_cg T n
  rw [h] at hk
  omega
