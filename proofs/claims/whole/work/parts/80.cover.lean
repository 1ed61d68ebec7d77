/-! covers: sets of cells by bits; weights; least weights -/
def qWg (C : Nat) (wt : Nat → Nat) (R : Nat → Bool) : Nat := fb_sm (fun c => if R c then wt c else 0) C
def qHit (C f : Nat) (R : Nat → Bool) : Prop := ∃ c, c < C ∧ f.testBit c = true ∧ R c = true
noncomputable def qMin (p : Nat → Prop) : Nat := Classical.epsilon (fun n => p n ∧ ∀ m, p m → n ≤ m)
theorem qMin_eq {p : Nat → Prop} {n : Nat} (h : p n) (h2 : ∀ m, p m → n ≤ m) : qMin p = n := by
  have := Classical.epsilon_spec (p := fun n => p n ∧ ∀ m, p m → n ≤ m) ⟨n, h, h2⟩
  exact Nat.le_antisymm (this.2 _ h) (h2 _ this.1)
theorem qMin_spec {p : Nat → Prop} (h : ∃ n, p n) : p (qMin p) ∧ ∀ m, p m → qMin p ≤ m := by
  obtain ⟨k, h1, h2⟩ := pk_least p h
  have h3 : ∀ m, p m → k ≤ m := fun m hm => Nat.le_of_not_lt (fun c => h2 m c hm)
  rw [qMin_eq h1 h3]
  exact ⟨h1, h3⟩
theorem qMin_cong {p q : Nat → Prop} (h : ∀ n, p n ↔ q n) : qMin p = qMin q := by
  have : p = q := funext fun n => propext (h n)
  rw [this]
/-- the least weight of the sets of a kind -/
noncomputable def qLW (C : Nat) (wt : Nat → Nat) (V : (Nat → Bool) → Prop) : Nat := qMin (fun n => ∃ R, V R ∧ qWg C wt R = n)
theorem qLW_spec {C : Nat} {wt : Nat → Nat} {V : (Nat → Bool) → Prop} (h : ∃ R, V R) : (∃ R, V R ∧ qWg C wt R = qLW C wt V) ∧ ∀ R, V R → qLW C wt V ≤ qWg C wt R := by
  obtain ⟨R, hR⟩ := h
  have := qMin_spec (p := fun n => ∃ R, V R ∧ qWg C wt R = n) ⟨_, R, hR, rfl⟩
  exact ⟨this.1, fun R hR => this.2 _ ⟨R, hR, rfl⟩⟩
theorem qLW_eq {C : Nat} {wt : Nat → Nat} {V : (Nat → Bool) → Prop} {R : Nat → Bool} (h : V R) (h2 : ∀ R', V R' → qWg C wt R ≤ qWg C wt R') : qLW C wt V = qWg C wt R :=
  qMin_eq ⟨R, h, rfl⟩ (fun m ⟨R', h1, h3⟩ => h3 ▸ h2 R' h1)
theorem qLW_cong {C : Nat} {wt : Nat → Nat} {V V' : (Nat → Bool) → Prop} (h : ∀ R, V R ↔ V' R) : qLW C wt V = qLW C wt V' := by
  have : V = V' := funext fun n => propext (h n)
  rw [this]
theorem qWg_cong {C : Nat} {wt wt' : Nat → Nat} {R R' : Nat → Bool} (hw : ∀ c, c < C → wt c = wt' c) (hR : ∀ c, c < C → R c = R' c) : qWg C wt R = qWg C wt' R' :=
  fb_sm_cong (fun c hc => by rw [hw c hc, hR c hc])
theorem qLW_wt {C : Nat} {wt wt' : Nat → Nat} {V : (Nat → Bool) → Prop} (hw : ∀ c, c < C → wt c = wt' c) : qLW C wt V = qLW C wt' V := by
  unfold qLW
  refine qMin_cong (fun n => ⟨fun ⟨R, h1, h2⟩ => ⟨R, h1, ?_⟩, fun ⟨R, h1, h2⟩ => ⟨R, h1, ?_⟩⟩)
  · rw [← h2]; exact (qWg_cong hw (fun _ _ => rfl)).symm
  · rw [← h2]; exact qWg_cong hw (fun _ _ => rfl)
theorem qWg_le {C : Nat} {wt : Nat → Nat} {R R' : Nat → Bool} (h : ∀ c, c < C → R c = true → R' c = true) : qWg C wt R ≤ qWg C wt R' := by
  refine fb_sm_le (fun c hc => ?_)
  by_cases e : R c = true
  · rw [if_pos e, if_pos (h c hc e)]; exact Nat.le_refl _
  · rw [if_neg e]; exact Nat.zero_le _
theorem qWg_bd {C : Nat} {wt : Nat → Nat} {B : Nat} (h : ∀ c, c < C → wt c ≤ B) (R : Nat → Bool) : qWg C wt R ≤ C * B := by
  refine fb_sm_bound (fun c hc => ?_)
  split
  · exact h c hc
  · exact Nat.zero_le _
theorem qWg_zero {C : Nat} {wt : Nat → Nat} {R : Nat → Bool} (h : ∀ c, c < C → R c = false) : qWg C wt R = 0 := by
  have : qWg C wt R = fb_sm (fun _ => 0) C := fb_sm_cong (fun c hc => by rw [h c hc]; rfl)
  rw [this, fb_sm_const, Nat.mul_zero]
/-- one cell more -/
theorem qWg_add {C c : Nat} {wt : Nat → Nat} {R R' : Nat → Bool} (hc : c < C) (h0 : R c = false) (h1 : R' c = true) (h : ∀ k, k < C → k ≠ c → R' k = R k) : qWg C wt R' = qWg C wt R + wt c := by
  have e : qWg C wt R' = fb_sm (fun k => if k = c then wt c else (if R k then wt k else 0)) C := fb_sm_cong (fun k hk => by
    by_cases q : k = c
    · rw [if_pos q, q, h1]; rfl
    · rw [if_neg q, h k hk q])
  have := fb_sm_upd (fun k => if R k then wt k else 0) (wt c) hc
  rw [h0] at this
  rw [e]
  show _ = fb_sm _ C + _
  rw [← this]
  rfl
theorem qWg_sum {C : Nat} (wt wt' : Nat → Nat) (R : Nat → Bool) : qWg C (fun c => wt c + wt' c) R = qWg C wt R + qWg C wt' R := by
  unfold qWg
  rw [← fb_sm_add]
  exact fb_sm_cong (fun c _ => by cases R c <;> rfl)
theorem qWg_mul {C : Nat} (wt : Nat → Nat) (k : Nat) (R : Nat → Bool) : qWg C (fun c => wt c * k) R = qWg C wt R * k := by
  unfold qWg
  induction C with
  | zero => show 0 = 0 * k; rw [Nat.zero_mul]
  | succ n ih =>
    rw [fb_sm_succ, fb_sm_succ, ih, Nat.add_mul]
    cases R n <;> simp
/-- valid sets between what is raised and what is kept low -/
def sV (C : Nat) (L : List (Nat × Nat)) (ra lo : Nat) (R : Nat → Bool) : Prop := (∀ c, c < C → ra.testBit c = true → R c = true) ∧ (∀ c, c < C → lo.testBit c = true → R c = false) ∧ ∀ p, p ∈ L → qHit C p.1 R
def sP (C : Nat) (L : List (Nat × Nat)) (wt : Nat → Nat) (ra lo B B' : Nat) : Prop := B' ≤ B ∧ (B' = B ∨ ∃ R, sV C L ra lo R ∧ qWg C wt R = B') ∧ ∀ R, sV C L ra lo R → B' ≤ qWg C wt R
/-- a list of needs with their directions that is fit for the search -/
def sL (C : Nat) (L : List (Nat × Nat)) (wt : Nat → Nat) : Prop := C ≤ 25 ∧ (∀ p, p ∈ L → p.1 < 2 ^ C ∧ p.2 < 4) ∧ L.length ≤ 54 ∧ (L.Pairwise (fun p q => p.2 = q.2 → p.1 &&& q.1 = 0)) ∧ ∀ c, c < C → wt c ≤ 2 ^ 40
theorem and0_bit {a b : Nat} : a &&& b = 0 ↔ ∀ c, ¬ (a.testBit c = true ∧ b.testBit c = true) := by
  constructor
  · intro h c hc
    have : (a &&& b).testBit c = true := by rw [Nat.testBit_and, hc.1, hc.2]; rfl
    rw [h, Nat.zero_testBit] at this
    cases this
  · intro h
    apply Nat.eq_of_testBit_eq
    intro c
    rw [Nat.testBit_and, Nat.zero_testBit]
    have := h c
    revert this
    cases a.testBit c <;> cases b.testBit c <;> simp
theorem bit_lt {a n c : Nat} (h : a < 2 ^ n) (hc : a.testBit c = true) : c < n := by
  apply Classical.byContradiction
  intro q
  rw [Nat.testBit_lt_two_pow (Nat.lt_of_lt_of_le h (Nat.pow_le_pow_right (by decide) (by omega)))] at hc
  cases hc
theorem ne0_bit {a : Nat} : ¬ a = 0 ↔ ∃ c, a.testBit c = true := by
  constructor
  · intro h
    apply Classical.byContradiction
    intro q
    exact h (Nat.eq_of_testBit_eq (fun c => by
      rw [Nat.zero_testBit]
      cases e : a.testBit c
      · rfl
      · exact absurd ⟨c, e⟩ q))
  · rintro ⟨c, hc⟩ h
    rw [h, Nat.zero_testBit] at hc
    cases hc
theorem sub_bit {a b : Nat} : a &&& b = a ↔ ∀ c, a.testBit c = true → b.testBit c = true := by
  constructor
  · intro h c hc
    have : (a &&& b).testBit c = true := by rw [h]; exact hc
    rw [Nat.testBit_and, hc, Bool.true_and] at this
    exact this
  · intro h
    apply Nat.eq_of_testBit_eq
    intro c
    rw [Nat.testBit_and]
    have := h c
    revert this
    cases a.testBit c <;> cases b.testBit c <;> simp
theorem sub_bit' {a b : Nat} : a &&& b = b ↔ ∀ c, b.testBit c = true → a.testBit c = true := by
  rw [Nat.and_comm]; exact sub_bit
/-- all are met -/
theorem sP_met {C : Nat} {L : List (Nat × Nat)} {wt : Nat → Nat} {ra lo B : Nat} (hd : ∀ c, ¬ (ra.testBit c = true ∧ lo.testBit c = true)) (hm : ∀ p, p ∈ L → qHit C p.1 ra.testBit) (hB : qWg C wt ra.testBit ≤ B) : sP C L wt ra lo B (qWg C wt ra.testBit) := by
  refine ⟨hB, Or.inr ⟨ra.testBit, ⟨fun _ _ h => h, fun c _ h => ?_, hm⟩, rfl⟩, fun R hR => qWg_le (fun c hc h => hR.1 c hc h)⟩
  cases e : ra.testBit c
  · rfl
  · exact absurd ⟨e, h⟩ (hd c)
/-- what is spent at least: needs of one direction have no cell in common -/
def sUn (C : Nat) (L : List (Nat × Nat)) (ra : Nat) (lw : Nat → Nat) (d : Nat) : Nat := match L with
  | [] => 0
  | p :: t => sUn C t ra lw d + (if p.1 &&& ra = 0 ∧ p.2 = d then lw p.1 else 0)
theorem sUn_le {C : Nat} {wt : Nat → Nat} {ra : Nat} {lw : Nat → Nat} {d : Nat} {R : Nat → Bool} (hR : ∀ c, c < C → ra.testBit c = true → R c = true) : ∀ (L : List (Nat × Nat)), (L.Pairwise (fun p q => p.2 = q.2 → p.1 &&& q.1 = 0)) → (∀ p, p ∈ L → qHit C p.1 R) → (∀ p, p ∈ L → p.1 &&& ra = 0 → ∀ c, c < C → p.1.testBit c = true → R c = true → lw p.1 ≤ wt c) →
    sUn C L ra lw d ≤ qWg C wt (fun c => R c && !ra.testBit c && L.any (fun p => decide (p.2 = d) && p.1.testBit c))
  | [], _, _, _ => Nat.zero_le _
  | p :: t, hp, hh, hl => by
    have ih := sUn_le (C := C) (wt := wt) (ra := ra) (lw := lw) (d := d) hR t (List.pairwise_cons.mp hp).2 (fun q hq => hh q (List.mem_cons_of_mem _ hq)) (fun q hq => hl q (List.mem_cons_of_mem _ hq))
    have mono : qWg C wt (fun c => R c && !ra.testBit c && t.any (fun p => decide (p.2 = d) && p.1.testBit c)) ≤ qWg C wt (fun c => R c && !ra.testBit c && (p :: t).any (fun p => decide (p.2 = d) && p.1.testBit c)) := qWg_le (fun c _ h => by
      rw [Bool.and_eq_true] at h ⊢
      exact ⟨h.1, by rw [List.any_cons, h.2, Bool.or_true]⟩)
    rw [sUn]
    by_cases q : p.1 &&& ra = 0 ∧ p.2 = d
    · rw [if_pos q]
      obtain ⟨c, h1, h2, h3⟩ := hh p List.mem_cons_self
      have l1 := hl p List.mem_cons_self q.1 c h1 h2 h3
      have nr : ra.testBit c = false := by
        cases e : ra.testBit c
        · rfl
        · exact absurd ⟨h2, e⟩ (and0_bit.mp q.1 c)
      have nt : t.any (fun p => decide (p.2 = d) && p.1.testBit c) = false := by
        rw [List.any_eq_false]
        intro r hr e
        rw [Bool.and_eq_true, decide_eq_true_iff] at e
        have := (List.pairwise_cons.mp hp).1 r hr (q.2.trans e.1.symm)
        exact and0_bit.mp this c ⟨h2, e.2⟩
      have add : qWg C wt (fun k => if k = c then true else (R k && !ra.testBit k && t.any (fun p => decide (p.2 = d) && p.1.testBit k))) = qWg C wt (fun c => R c && !ra.testBit c && t.any (fun p => decide (p.2 = d) && p.1.testBit c)) + wt c := qWg_add h1 (by rw [nt, Bool.and_false]) (by rw [if_pos rfl]) (fun k _ hk => if_neg hk)
      have le2 : qWg C wt (fun k => if k = c then true else (R k && !ra.testBit k && t.any (fun p => decide (p.2 = d) && p.1.testBit k))) ≤ qWg C wt (fun c => R c && !ra.testBit c && (p :: t).any (fun p => decide (p.2 = d) && p.1.testBit c)) := qWg_le (fun k _ h => by
        by_cases e : k = c
        · rw [e, h3, nr, List.any_cons, decide_eq_true q.2, h2]; rfl
        · rw [if_neg e, Bool.and_eq_true] at h
          rw [h.1, List.any_cons, h.2, Bool.or_true]; rfl)
      omega
    · rw [if_neg q]; omega
theorem qWg_split {C : Nat} {wt : Nat → Nat} {R S : Nat → Bool} (h : ∀ c, c < C → S c = true → R c = true) : qWg C wt R = qWg C wt S + qWg C wt (fun c => R c && !S c) := by
  unfold qWg
  rw [← fb_sm_add]
  refine fb_sm_cong (fun c hc => ?_)
  have := h c hc
  show (if R c then wt c else 0) = (if S c then wt c else 0) + (if (R c && !S c) then wt c else 0)
  revert this
  cases R c <;> cases S c <;> simp
theorem sP_prune {C : Nat} {L : List (Nat × Nat)} {wt : Nat → Nat} {ra lo B : Nat} {lw : Nat → Nat} {d : Nat} (hL : sL C L wt) (hl : ∀ p, p ∈ L → p.1 &&& ra = 0 → ∀ c, c < C → p.1.testBit c = true → lo.testBit c = false → lw p.1 ≤ wt c) (hB : B ≤ qWg C wt ra.testBit + sUn C L ra lw d) : sP C L wt ra lo B B := by
  refine ⟨Nat.le_refl _, Or.inl rfl, fun R hR => ?_⟩
  have h1 := sUn_le (C := C) (wt := wt) (ra := ra) (lw := lw) (d := d) hR.1 L hL.2.2.2.1 hR.2.2 (fun p hp q c hc e r => hl p hp q c hc e (by
    cases u : lo.testBit c
    · rfl
    · have := hR.2.1 c hc u
      rw [r] at this
      cases this))
  have h2 := qWg_split (C := C) (wt := wt) (R := R) (S := ra.testBit) hR.1
  have h3 : qWg C wt (fun c => R c && !ra.testBit c && L.any (fun p => decide (p.2 = d) && p.1.testBit c)) ≤ qWg C wt (fun c => R c && !ra.testBit c) := qWg_le (fun c _ h => by rw [Bool.and_eq_true] at h; exact h.1)
  omega
theorem sP_none {C : Nat} {L : List (Nat × Nat)} {wt : Nat → Nat} {ra lo B : Nat} {p : Nat × Nat} (hL : sL C L wt) (hp : p ∈ L) (hr : p.1 &&& ra = 0) (h : ∀ c, p.1.testBit c = true → lo.testBit c = true) : sP C L wt ra lo B B := by
  refine ⟨Nat.le_refl _, Or.inl rfl, fun R hR => ?_⟩
  obtain ⟨c, h1, h2, h3⟩ := hR.2.2 p hp
  have := hR.2.1 c h1 (h c h2)
  rw [h3] at this
  cases this
/-- the loop over the cells of a need: some of them have been tried -/
def sQ (C : Nat) (L : List (Nat × Nat)) (wt : Nat → Nat) (ra lo B tr B' : Nat) : Prop := B' ≤ B ∧ (B' = B ∨ ∃ R, sV C L ra lo R ∧ qWg C wt R = B') ∧ ∀ R, sV C L ra lo R → (∃ c, c < C ∧ tr.testBit c = true ∧ lo.testBit c = false ∧ R c = true) → B' ≤ qWg C wt R
theorem sQ_0 {C : Nat} {L : List (Nat × Nat)} {wt : Nat → Nat} {ra lo B : Nat} : sQ C L wt ra lo B lo B :=
  ⟨Nat.le_refl _, Or.inl rfl, fun R _ ⟨c, _, h1, h2, _⟩ => by rw [h1] at h2; cases h2⟩
theorem sQ_step {C : Nat} {L : List (Nat × Nat)} {wt : Nat → Nat} {ra lo B tr B1 B2 cell : Nat} (h : sQ C L wt ra lo B tr B1) (hc : cell < C) (hlt : ∀ c, lo.testBit c = true → tr.testBit c = true) (hn : tr.testBit cell = false) (h2 : sP C L wt (ra ||| 2 ^ cell) tr B1 B2) : sQ C L wt ra lo B (tr ||| 2 ^ cell) B2 := by
  obtain ⟨a1, a2, a3⟩ := h
  obtain ⟨b1, b2, b3⟩ := h2
  refine ⟨Nat.le_trans b1 a1, ?_, fun R hR hc' => ?_⟩
  · rcases b2 with e | ⟨R, hR, e⟩
    · rw [e]; exact a2
    · refine Or.inr ⟨R, ⟨fun c hc h => hR.1 c hc (by rw [fb_bit_set, h, Bool.true_or]), fun c hc h => hR.2.1 c hc (hlt c h), hR.2.2⟩, e⟩
  · obtain ⟨c, c1, c2, c3, c4⟩ := hc'
    by_cases q : ∃ c, c < C ∧ tr.testBit c = true ∧ lo.testBit c = false ∧ R c = true
    · exact Nat.le_trans b1 (a3 R hR q)
    · have ec : R cell = true := by
        rw [fb_bit_set, Bool.or_eq_true, decide_eq_true_iff] at c2
        rcases c2 with c2 | c2
        · exact absurd ⟨c, c1, c2, c3, c4⟩ q
        · rw [← c2]; exact c4
      refine b3 R ⟨fun k hk e => ?_, fun k hk e => ?_, hR.2.2⟩
      · rw [fb_bit_set, Bool.or_eq_true, decide_eq_true_iff] at e
        rcases e with e | e
        · exact hR.1 k hk e
        · rw [e]; exact ec
      · cases u : lo.testBit k
        · cases v : R k
          · rfl
          · exact absurd ⟨k, hk, e, u, v⟩ q
        · exact hR.2.1 k hk u
theorem sQ_end {C : Nat} {L : List (Nat × Nat)} {wt : Nat → Nat} {ra lo B tr B1 : Nat} {p : Nat × Nat} (h : sQ C L wt ra lo B tr B1) (hp : p ∈ L) (ht : ∀ c, p.1.testBit c = true → tr.testBit c = true) : sP C L wt ra lo B B1 := by
  refine ⟨h.1, h.2.1, fun R hR => h.2.2 R hR ?_⟩
  obtain ⟨c, h1, h2, h3⟩ := hR.2.2 p hp
  refine ⟨c, h1, ht c h2, ?_, h3⟩
  cases u : lo.testBit c
  · rfl
  · have := hR.2.1 c h1 u
    rw [h3] at this
    cases this
