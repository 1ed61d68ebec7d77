/-! the states that the class's count goes through -/
noncomputable def tM (sl : Nat → Nat) (P : Nat → Prop) : Nat → Nat
  | 0 => 0
  | k + 1 => tM sl P k ||| (if qB (P k) then 2 ^ sl k else 0)
theorem tM_bit {sl : Nat → Nat} {P : Nat → Prop} (j : Nat) : ∀ m, (tM sl P m).testBit j = true ↔ ∃ k, k < m ∧ P k ∧ sl k = j
  | 0 => ⟨fun h => (by rw [tM, Nat.zero_testBit] at h; cases h), fun ⟨k, hk, _⟩ => absurd hk (Nat.not_lt_zero _)⟩
  | m + 1 => by
    have ih := tM_bit (sl := sl) (P := P) j m
    rw [tM, Nat.testBit_or, Bool.or_eq_true, ih]
    constructor
    · rintro (⟨k, h1, h2⟩ | h)
      · exact ⟨k, by omega, h2⟩
      · by_cases e : P m
        · rw [if_pos (qB_t.mpr e), Nat.testBit_two_pow, decide_eq_true_iff] at h
          exact ⟨m, by omega, e, h⟩
        · rw [if_neg (fun u => e (qB_t.mp u)), Nat.zero_testBit] at h
          cases h
    · rintro ⟨k, h1, h2, h3⟩
      rcases Nat.lt_or_ge k m with u | u
      · exact Or.inl ⟨k, u, h2, h3⟩
      · obtain rfl : k = m := by omega
        right
        rw [if_pos (qB_t.mpr h2), h3, Nat.testBit_two_pow_self]
/-- needs, from their first cell to their last, and their slots -/
def wH (C m : Nat) (nd lo hi sl : Nat → Nat) (fo : Nat) : Prop := (∀ k, k < m → qLb (nd k) (lo k) ∧ qHi (nd k) (hi k) ∧ nd k < 2 ^ C ∧ nd k &&& fo = 0) ∧ ∀ j k, j < m → k < m → j ≠ k → lo j ≤ hi k → lo k ≤ hi j → sl j ≠ sl k
def tVl (m : Nat) (nd hi : Nat → Nat) (fo n R : Nat) : Prop := (∀ c, c < n → fo.testBit c = true → R.testBit c = true) ∧ ∀ k, k < m → hi k < n → ¬ nd k &&& R = 0
def tSt (m : Nat) (nd lo hi sl : Nat → Nat) (n R S : Nat) : Prop := ∀ j, S.testBit j = true ↔ ∃ k, k < m ∧ (lo k < n ∧ n ≤ hi k ∧ ¬ nd k &&& R = 0) ∧ sl k = j
def mVd (m : Nat) (nd hi : Nat → Nat) (fo n R : Nat) : Prop := (∀ c, c < n + 1 → fo.testBit c = true → R.testBit c = true) ∧ ∀ k, k < m → hi k < n → ¬ nd k &&& R = 0
def mSd (m : Nat) (nd lo hi sl : Nat → Nat) (n R S : Nat) : Prop := ∀ j, S.testBit j = true ↔ ∃ k, k < m ∧ (lo k ≤ n ∧ n ≤ hi k ∧ ¬ nd k &&& R = 0) ∧ sl k = j
section WAY
variable {C m : Nat} {nd lo hi sl : Nat → Nat} {fo : Nat} {b : Nat → Nat}
noncomputable def tD (m : Nat) (nd lo hi sl : Nat → Nat) (fo : Nat) (b : Nat → Nat) (n S : Nat) : Nat := tS b n (fun R => tVl m nd hi fo n R ∧ tSt m nd lo hi sl n R S)
noncomputable def tE (m : Nat) (nd lo hi sl : Nat → Nat) (fo : Nat) (b : Nat → Nat) (n S : Nat) : Nat := tS b (n + 1) (fun R => mVd m nd hi fo n R ∧ mSd m nd lo hi sl n R S)
noncomputable def tT (m : Nat) (nd lo hi sl : Nat → Nat) (fo : Nat) (b : Nat → Nat) (n met j S : Nat) : Nat := tS b n (fun R => tVl m nd hi fo n R ∧ ∃ S', tSt m nd lo hi sl n R S' ∧ S' ||| met = S ∧ j ≤ S')
theorem bit_ext {a c : Nat} (h : ∀ j, a.testBit j = true ↔ c.testBit j = true) : a = c := Nat.eq_of_testBit_eq (fun j => by
  have := h j
  revert this
  cases a.testBit j <;> cases c.testBit j <;> simp)
theorem hit_iff {a R : Nat} : ¬ a &&& R = 0 ↔ ∃ c, a.testBit c = true ∧ R.testBit c = true := by
  rw [ne0_bit]
  exact exists_congr (fun c => by rw [Nat.testBit_and, Bool.and_eq_true])
theorem hit_add {a n R : Nat} (hR : R < 2 ^ n) : ¬ a &&& (2 ^ n + R) = 0 ↔ ¬ a &&& R = 0 ∨ a.testBit n = true := by
  rw [hit_iff, hit_iff]
  constructor
  · rintro ⟨c, h1, h2⟩
    rw [add_bit hR, Bool.or_eq_true, decide_eq_true_iff] at h2
    rcases h2 with h2 | h2
    · exact Or.inl ⟨c, h1, h2⟩
    · rw [h2] at h1; exact Or.inr h1
  · rintro (⟨c, h1, h2⟩ | h)
    · exact ⟨c, h1, by rw [add_bit hR, h2, Bool.true_or]⟩
    · exact ⟨n, h, by rw [add_bit hR, decide_eq_true rfl, Bool.or_true]⟩
theorem hit_lo {a n t R : Nat} (hR : R < 2 ^ n) (h : qLb a t) (ht : n ≤ t) : a &&& R = 0 := by
  rw [and0_bit]
  rintro c ⟨h1, h2⟩
  have := bit_lt hR h2
  have := h.2 c (by omega)
  rw [h1] at this
  cases this
theorem wH.in {k c : Nat} (H : wH C m nd lo hi sl fo) (hk : k < m) (h : (nd k).testBit c = true) : lo k ≤ c ∧ c ≤ hi k := by
  obtain ⟨h1, h2, _⟩ := H.1 k hk
  refine ⟨Nat.le_of_not_lt (fun q => ?_), (qHi_bit h2).2 c h⟩
  have := h1.2 c q
  rw [h] at this
  cases this
theorem wH.lohi {k : Nat} (H : wH C m nd lo hi sl fo) (hk : k < m) : lo k ≤ hi k := (H.in hk (H.1 k hk).1.1).2
theorem tSt_one {n R S S' : Nat} (h : tSt m nd lo hi sl n R S) (h' : tSt m nd lo hi sl n R S') : S = S' := bit_ext (fun j => (h j).trans (h' j).symm)
theorem tSt_ex (n R : Nat) : ∃ S, tSt m nd lo hi sl n R S := ⟨tM sl (fun k => lo k < n ∧ n ≤ hi k ∧ ¬ nd k &&& R = 0) m, fun j => tM_bit j m⟩
/-- a cell that lies in some need -/
theorem tE_touch (H : wH C m nd lo hi sl fo) {n met S : Nat} (hf : fo.testBit n = false) (hm : ∀ j, met.testBit j = true ↔ ∃ k, k < m ∧ (nd k).testBit n = true ∧ sl k = j) : tE m nd lo hi sl fo b n S = b n * tD m nd lo hi sl fo b n S + tT m nd lo hi sl fo b n met 0 S := by
  unfold tE
  rw [tS_step]
  congr 1
  · congr 1
    refine tS_iff (fun R hR => ?_)
    refine and_congr ⟨fun h => ⟨fun c hc => h.1 c (by omega), h.2⟩, fun h => ⟨fun c hc hfc => ?_, h.2⟩⟩ ?_
    · by_cases e : c = n
      · rw [e, hf] at hfc; cases hfc
      · exact h.1 c (by omega) hfc
    · refine forall_congr' (fun j => iff_congr Iff.rfl ?_)
      refine exists_congr (fun k => ?_)
      refine and_congr_right (fun hk => and_congr_left (fun _ => ?_))
      refine ⟨fun h => ⟨?_, h.2⟩, fun h => ⟨by omega, h.2⟩⟩
      rcases Nat.lt_or_ge (lo k) n with u | u
      · exact u
      · exact absurd (hit_lo hR (H.1 k hk).1 u) h.2.2
  · refine tS_iff (fun R hR => ?_)
    have v : mVd m nd hi fo n (2 ^ n + R) ↔ tVl m nd hi fo n R := by
      constructor
      · rintro ⟨h1, h2⟩
        refine ⟨fun c hc hfc => ?_, fun k hk hh => ?_⟩
        · have := h1 c (by omega) hfc
          rw [add_bit hR, decide_eq_false (by omega), Bool.or_false] at this
          exact this
        · refine ((hit_add hR).mp (h2 k hk hh)).resolve_right (fun u => ?_)
          have := (H.in hk u).2
          omega
      · rintro ⟨h1, h2⟩
        refine ⟨fun c hc hfc => ?_, fun k hk hh => (hit_add hR).mpr (Or.inl (h2 k hk hh))⟩
        rw [add_bit hR]
        by_cases e : c = n
        · rw [decide_eq_true e, Bool.or_true]
        · rw [h1 c (by omega) hfc, Bool.true_or]
    rw [v]
    refine and_congr_right (fun _ => ?_)
    have key : ∀ S', tSt m nd lo hi sl n R S' → ∀ j, (S' ||| met).testBit j = true ↔ ∃ k, k < m ∧ (lo k ≤ n ∧ n ≤ hi k ∧ ¬ nd k &&& (2 ^ n + R) = 0) ∧ sl k = j := fun S' hS' j => by
      rw [Nat.testBit_or, Bool.or_eq_true, hS' j, hm j]
      constructor
      · rintro (⟨k, h1, ⟨h2, h3, h4⟩, h5⟩ | ⟨k, h1, h2, h3⟩)
        · exact ⟨k, h1, ⟨by omega, h3, (hit_add hR).mpr (Or.inl h4)⟩, h5⟩
        · exact ⟨k, h1, ⟨(H.in h1 h2).1, (H.in h1 h2).2, (hit_add hR).mpr (Or.inr h2)⟩, h3⟩
      · rintro ⟨k, h1, ⟨h2, h3, h4⟩, h5⟩
        rcases (hit_add hR).mp h4 with h4 | h4
        · left
          refine ⟨k, h1, ⟨?_, h3, h4⟩, h5⟩
          rcases Nat.lt_or_ge (lo k) n with u | u
          · exact u
          · exact absurd (hit_lo hR (H.1 k h1).1 u) h4
        · exact Or.inr ⟨k, h1, h4, h5⟩
    constructor
    · intro h
      obtain ⟨S', hS'⟩ := tSt_ex (m := m) (nd := nd) (lo := lo) (hi := hi) (sl := sl) n R
      exact ⟨S', hS', bit_ext (fun j => (key S' hS' j).trans (h j).symm), Nat.zero_le _⟩
    · rintro ⟨S', h1, h2, _⟩ j
      rw [← h2]; exact key S' h1 j
/-- a cell that lies in no need -/
theorem tD_free (H : wH C m nd lo hi sl fo) {n S : Nat} (hn : ∀ k, k < m → ¬ (nd k).testBit n = true) : tD m nd lo hi sl fo b (n + 1) S = (if fo.testBit n then 0 else b n) * tD m nd lo hi sl fo b n S + tD m nd lo hi sl fo b n S := by
  have ne : ∀ k, k < m → lo k ≠ n ∧ hi k ≠ n := fun k hk => ⟨fun q => hn k hk (by rw [← q]; exact (H.1 k hk).1.1), fun q => hn k hk (by rw [← q]; exact (qHi_bit (H.1 k hk).2.1).1)⟩
  have st : ∀ R R', (∀ k, k < m → (¬ nd k &&& R' = 0 ↔ ¬ nd k &&& R = 0)) → (tSt m nd lo hi sl (n + 1) R' S ↔ tSt m nd lo hi sl n R S) := fun R R' hh =>
    forall_congr' (fun j => iff_congr Iff.rfl (exists_congr (fun k => and_congr_right (fun hk => and_congr_left (fun _ => by
      have := ne k hk
      rw [hh k hk]
      constructor
      · rintro ⟨h1, h2, h3⟩; exact ⟨by omega, by omega, h3⟩
      · rintro ⟨h1, h2, h3⟩; exact ⟨by omega, by omega, h3⟩)))))
  unfold tD
  rw [tS_step]
  congr 1
  · cases e : fo.testBit n
    · rw [if_neg (by decide)]
      congr 1
      refine tS_iff (fun R hR => and_congr ⟨fun h => ⟨fun c hc => h.1 c (by omega), fun k hk hh => h.2 k hk (by omega)⟩, fun h => ⟨fun c hc hfc => ?_, fun k hk hh => h.2 k hk (by have := ne k hk; omega)⟩⟩ (st R R (fun _ _ => Iff.rfl)))
      by_cases q : c = n
      · rw [q, e] at hfc; cases hfc
      · exact h.1 c (by omega) hfc
    · rw [if_pos rfl, Nat.zero_mul]
      rw [tS_no (fun R hR h => ?_), Nat.mul_zero]
      have := h.1.1 n (by omega) e
      rw [Nat.testBit_lt_two_pow hR] at this
      cases this
  · refine tS_iff (fun R hR => and_congr ?_ (st R _ (fun k hk => (hit_add hR).trans ⟨fun u => u.resolve_right (hn k hk), Or.inl⟩)))
    constructor
    · rintro ⟨h1, h2⟩
      refine ⟨fun c hc hfc => ?_, fun k hk hh => ((hit_add hR).mp (h2 k hk (by omega))).resolve_right (hn k hk)⟩
      have := h1 c (by omega) hfc
      rw [add_bit hR, decide_eq_false (by omega), Bool.or_false] at this
      exact this
    · rintro ⟨h1, h2⟩
      refine ⟨fun c hc hfc => ?_, fun k hk hh => (hit_add hR).mpr (Or.inl (h2 k hk (by have := ne k hk; omega)))⟩
      rw [add_bit hR]
      by_cases e : c = n
      · rw [decide_eq_true e, Bool.or_true]
      · rw [h1 c (by omega) hfc, Bool.true_or]
theorem tD_close (H : wH C m nd lo hi sl fo) {n cl S : Nat} (hc : ∀ j, cl.testBit j = true ↔ ∃ k, k < m ∧ hi k = n ∧ sl k = j) : tD m nd lo hi sl fo b (n + 1) S = if S &&& cl = 0 then tE m nd lo hi sl fo b n (S ||| cl) else 0 := by
  have same : ∀ j k, j < m → k < m → lo j ≤ n → n ≤ hi j → lo k ≤ n → n ≤ hi k → sl j = sl k → j = k := fun j k hj hk a1 a2 a3 a4 e => by
    apply Classical.byContradiction
    intro ne
    exact H.2 j k hj hk ne (by omega) (by omega) e
  have loh : ∀ k, k < m → lo k ≤ hi k := fun k hk => H.lohi hk
  by_cases dj : S &&& cl = 0
  · rw [if_pos dj]
    have nd0 := and0_bit.mp dj
    unfold tD tE
    refine tS_iff (fun R hR => ?_)
    constructor
    · rintro ⟨⟨h1, h2⟩, h3⟩
      refine ⟨⟨h1, fun k hk hh => h2 k hk (by omega)⟩, fun j => ?_⟩
      rw [Nat.testBit_or, Bool.or_eq_true, h3 j, hc j]
      constructor
      · rintro (⟨k, k1, ⟨k2, k3, k4⟩, k5⟩ | ⟨k, k1, k2, k3⟩)
        · exact ⟨k, k1, ⟨by omega, by omega, k4⟩, k5⟩
        · exact ⟨k, k1, ⟨by have := loh k k1; omega, by omega, h2 k k1 (by omega)⟩, k3⟩
      · rintro ⟨k, k1, ⟨k2, k3, k4⟩, k5⟩
        by_cases e : hi k = n
        · exact Or.inr ⟨k, k1, e, k5⟩
        · exact Or.inl ⟨k, k1, ⟨by omega, by omega, k4⟩, k5⟩
    · rintro ⟨⟨h1, h2⟩, h3⟩
      have clHit : ∀ k, k < m → hi k = n → ¬ nd k &&& R = 0 := fun k hk e => by
        have : (S ||| cl).testBit (sl k) = true := by rw [Nat.testBit_or, (hc (sl k)).mpr ⟨k, hk, e, rfl⟩, Bool.or_true]
        obtain ⟨k2, a1, ⟨a2, a3, a4⟩, a5⟩ := (h3 (sl k)).mp this
        have := same k2 k a1 hk a2 a3 (by have := loh k hk; omega) (by omega) a5
        rw [← this]; exact a4
      refine ⟨⟨h1, fun k hk hh => ?_⟩, fun j => ?_⟩
      · rcases Nat.lt_or_ge (hi k) n with u | u
        · exact h2 k hk u
        · exact clHit k hk (by omega)
      · constructor
        · intro hj
          have : (S ||| cl).testBit j = true := by rw [Nat.testBit_or, hj, Bool.true_or]
          obtain ⟨k, k1, ⟨k2, k3, k4⟩, k5⟩ := (h3 j).mp this
          refine ⟨k, k1, ⟨by omega, ?_, k4⟩, k5⟩
          rcases Nat.lt_or_ge n (hi k) with u | u
          · omega
          · exact absurd ⟨hj, (hc j).mpr ⟨k, k1, by omega, k5⟩⟩ (nd0 j)
        · rintro ⟨k, k1, ⟨k2, k3, k4⟩, k5⟩
          have : (S ||| cl).testBit j = true := (h3 j).mpr ⟨k, k1, ⟨by omega, by omega, k4⟩, k5⟩
          rw [Nat.testBit_or, Bool.or_eq_true] at this
          rcases this with u | u
          · exact u
          · exfalso
            obtain ⟨k', a1, a2, a3⟩ := (hc j).mp u
            have := same k k' k1 a1 (by omega) (by omega) (by have := loh k' a1; omega) (by omega) (k5.trans a3.symm)
            rw [this] at k3
            omega
  · rw [if_neg dj]
    refine tS_no (fun R hR h => ?_)
    obtain ⟨j, hj⟩ := ne0_bit.mp dj
    rw [Nat.testBit_and, Bool.and_eq_true] at hj
    obtain ⟨k, k1, ⟨k2, k3, k4⟩, k5⟩ := (h.2 j).mp hj.1
    obtain ⟨k', a1, a2, a3⟩ := (hc j).mp hj.2
    have := same k k' k1 a1 (by omega) (by omega) (by have := loh k' a1; omega) (by omega) (k5.trans a3.symm)
    rw [this] at k3
    omega
theorem tSt_lt {n R S e : Nat} (he : ∀ k, k < m → lo k ≤ n → n ≤ hi k → sl k < e) (h : tSt m nd lo hi sl n R S) : S < 2 ^ e := by
  apply Nat.lt_pow_two_of_testBit
  intro i hie
  cases u : S.testBit i
  · rfl
  · obtain ⟨k, k1, ⟨k2, k3, k4⟩, k5⟩ := (h i).mp u
    have := he k k1 (by omega) k3
    omega
theorem tBig {n S e : Nat} (he : ∀ k, k < m → lo k ≤ n → n ≤ hi k → sl k < e) (hS : 2 ^ e ≤ S) : tD m nd lo hi sl fo b n S = 0 ∧ tE m nd lo hi sl fo b n S = 0 ∧ tD m nd lo hi sl fo b (n + 1) S = 0 := by
  refine ⟨tS_no (fun R _ h => ?_), tS_no (fun R _ h => ?_), tS_no (fun R _ h => ?_)⟩
  · have := tSt_lt he h.2; omega
  · have : S < 2 ^ e := by
      apply Nat.lt_pow_two_of_testBit
      intro i hie
      cases u : S.testBit i
      · rfl
      · obtain ⟨k, k1, ⟨k2, k3, k4⟩, k5⟩ := (h.2 i).mp u
        have := he k k1 k2 k3
        omega
    omega
  · have : S < 2 ^ e := by
      apply Nat.lt_pow_two_of_testBit
      intro i hie
      cases u : S.testBit i
      · rfl
      · obtain ⟨k, k1, ⟨k2, k3, k4⟩, k5⟩ := (h.2 i).mp u
        have := he k k1 (by omega) (by omega)
        omega
    omega
theorem tT_step {n met j S : Nat} : tT m nd lo hi sl fo b n met j S = tT m nd lo hi sl fo b n met (j + 1) S + (if j ||| met = S then tD m nd lo hi sl fo b n j else 0) := by
  unfold tT tD
  by_cases e : j ||| met = S
  · rw [if_pos e, ← tS_or (fun R _ h => ?_)]
    · refine tS_iff (fun R _ => ?_)
      constructor
      · rintro ⟨h1, S', h2, h3, h4⟩
        by_cases u : S' = j
        · exact Or.inr ⟨h1, by rw [← u]; exact h2⟩
        · exact Or.inl ⟨h1, S', h2, h3, by omega⟩
      · rintro (⟨h1, S', h2, h3, h4⟩ | ⟨h1, h2⟩)
        · exact ⟨h1, S', h2, h3, by omega⟩
        · exact ⟨h1, j, h2, e, Nat.le_refl _⟩
    · obtain ⟨⟨_, S', h2, _, h4⟩, _, h6⟩ := h
      have := tSt_one h2 h6
      omega
  · rw [if_neg e, Nat.add_zero]
    refine tS_iff (fun R _ => ?_)
    constructor
    · rintro ⟨h1, S', h2, h3, h4⟩
      refine ⟨h1, S', h2, h3, ?_⟩
      rcases Nat.lt_or_ge j S' with u | u
      · exact u
      · obtain rfl : S' = j := by omega
        exact absurd h3 e
    · rintro ⟨h1, S', h2, h3, h4⟩
      exact ⟨h1, S', h2, h3, by omega⟩
theorem tT_top {n met e S : Nat} (he : ∀ k, k < m → lo k ≤ n → n ≤ hi k → sl k < e) : tT m nd lo hi sl fo b n met (2 ^ e) S = 0 :=
  tS_no (fun R _ ⟨_, S', h2, _, h4⟩ => by have := tSt_lt he h2; omega)
theorem tD_0 (S : Nat) : tD m nd lo hi sl fo b 0 S = if S = 0 then 1 else 0 := by
  have key : ∀ R, (tVl m nd hi fo 0 R ∧ tSt m nd lo hi sl 0 R S) ↔ S = 0 := fun R => by
    constructor
    · rintro ⟨_, h⟩
      exact bit_ext (fun j => ⟨fun u => by
        obtain ⟨k, _, ⟨k2, _⟩, _⟩ := (h j).mp u
        exact absurd k2 (Nat.not_lt_zero _), fun u => by rw [Nat.zero_testBit] at u; cases u⟩)
    · rintro rfl
      refine ⟨⟨fun c hc => absurd hc (Nat.not_lt_zero _), fun k _ hh => absurd hh (Nat.not_lt_zero _)⟩, fun j => ?_⟩
      rw [Nat.zero_testBit]
      exact ⟨fun u => (by cases u), fun ⟨k, _, ⟨k2, _⟩, _⟩ => absurd k2 (Nat.not_lt_zero _)⟩
  unfold tD
  rw [tS_iff (q := fun _ => S = 0) (fun R _ => key R)]
  unfold tS
  show 0 + (if qB (S = 0) = true then tPr b 0 0 else 0) = _
  by_cases e : S = 0
  · rw [if_pos (qB_t.mpr e), if_pos e]; rfl
  · rw [if_neg (fun u => e (qB_t.mp u)), if_neg e]
theorem tD_end (H : wH C m nd lo hi sl fo) : tD m nd lo hi sl fo b C 0 = tS b C (tVl m nd hi fo C) := by
  refine tS_iff (fun R _ => ⟨fun h => h.1, fun h => ⟨h, fun j => ?_⟩⟩)
  rw [Nat.zero_testBit]
  refine ⟨fun u => (by cases u), fun ⟨k, k1, ⟨_, k3, _⟩, _⟩ => ?_⟩
  have := qHi_lt (H.1 k k1).2.1 (H.1 k k1).2.2.1
  omega
end WAY
