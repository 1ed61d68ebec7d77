/-! the strips that want a cell raised -/
def qFree (pl : qP) (cp : Nat → Nat) (f : Nat) : Prop := ∃ c, f.testBit c = true ∧ cp c = qLeast pl c
def qFam (pl : qP) (ask : Nat) (want : Nat → Nat → Nat) (cp : Nat → Nat) (f : Nat) : Prop := ∃ v s, v < qn pl ∧ ask.testBit v = true ∧ s < qSt pl v ∧ f = qAb pl want cp v s (qc pl) ∧ ¬ qFree pl cp f
def qOkR (pl : qP) (ask : Nat) (want : Nat → Nat → Nat) (cp : Nat → Nat) (R : Nat → Bool) : Prop := ∀ f, qFam pl ask want cp f → qHit (qc pl) f R
def qLm (pl : qP) (cp : Nat → Nat) : Nat → Nat
  | 0 => 0
  | c + 1 => if cp c = qLeast pl c then qLm pl cp c ||| 2 ^ c else qLm pl cp c
theorem qLm_bit {pl : qP} {cp : Nat → Nat} (k : Nat) : ∀ n, (qLm pl cp n).testBit k = (decide (k < n) && decide (cp k = qLeast pl k))
  | 0 => by simp [qLm]
  | n + 1 => by
    have ih := qLm_bit (pl := pl) (cp := cp) k n
    show (if cp n = qLeast pl n then qLm pl cp n ||| 2 ^ n else qLm pl cp n).testBit k = _
    by_cases hk : k = n
    · subst hk
      by_cases c : cp k = qLeast pl k
      · rw [if_pos c, fb_bit_set, ih]
        simp [c]
      · rw [if_neg c, ih]
        simp [c]
    · have e : decide (k < n + 1) = decide (k < n) := by
        congr 1; apply propext; omega
      by_cases c : cp n = qLeast pl n
      · rw [if_pos c, fb_bit_set, ih, e]
        simp [hk]
      · rw [if_neg c, ih, e]
theorem qLm_lt {pl : qP} {cp : Nat → Nat} (n : Nat) : qLm pl cp n < 2 ^ n := by
  apply Nat.lt_pow_two_of_testBit
  intro i hi
  rw [qLm_bit, decide_eq_false (by omega), Bool.false_and]
theorem qFree_iff {pl : qP} {cp : Nat → Nat} {f : Nat} (hf : f < 2 ^ qc pl) : f &&& qLm pl cp (qc pl) = 0 ↔ ¬ qFree pl cp f := by
  rw [and0_bit]
  constructor
  · rintro h ⟨c, h1, h2⟩
    exact h c ⟨h1, by rw [qLm_bit, decide_eq_true (bit_lt hf h1), decide_eq_true h2]; rfl⟩
  · rintro h c ⟨h1, h2⟩
    rw [qLm_bit, Bool.and_eq_true, decide_eq_true_iff, decide_eq_true_iff] at h2
    exact h ⟨c, h1, h2.2⟩

noncomputable def qFreeB (pl : qP) (cp : Nat → Nat) (f : Nat) : Bool := @decide (qFree pl cp f) (Classical.propDecidable _)
theorem qFreeB_t {pl : qP} {cp : Nat → Nat} {f : Nat} : qFreeB pl cp f = true ↔ qFree pl cp f := by unfold qFreeB; exact @decide_eq_true_iff _ (Classical.propDecidable _)
noncomputable def gSt (pl : qP) (want : Nat → Nat → Nat) (cp : Nat → Nat) (v : Nat) (L : List (Nat × Nat)) : Nat → List (Nat × Nat)
  | 0 => L
  | s + 1 => if qFreeB pl cp (qAb pl want cp v s (qc pl)) = true then gSt pl want cp v L s else qReq (gSt pl want cp v L s) (qAb pl want cp v s (qc pl)) (qSide pl v % 4)
noncomputable def gVl (pl : qP) (ask : Nat) (want : Nat → Nat → Nat) (cp : Nat → Nat) : Nat → List (Nat × Nat)
  | 0 => []
  | v + 1 => if ask.testBit v = true then gSt pl want cp v (gVl pl ask want cp v) (qSt pl v) else gVl pl ask want cp v
/-- a list of needs: what they are, none within another, each wanted set holds one of them; S: which strips have been seen -/
def gI (pl : qP) (want : Nat → Nat → Nat) (cp : Nat → Nat) (S : Nat → Nat → Prop) (L : List (Nat × Nat)) : Prop :=
  (∀ p, p ∈ L → ∃ v s, S v s ∧ p.1 = qAb pl want cp v s (qc pl) ∧ p.2 = qSide pl v % 4 ∧ ¬ qFree pl cp p.1) ∧
  L.Pairwise (fun p q => ¬ p.1 &&& q.1 = p.1 ∧ ¬ q.1 &&& p.1 = q.1) ∧
  ∀ v s, S v s → ¬ qFree pl cp (qAb pl want cp v s (qc pl)) → ∃ p, p ∈ L ∧ p.1 &&& qAb pl want cp v s (qc pl) = p.1
theorem gI_mono {pl : qP} {want : Nat → Nat → Nat} {cp : Nat → Nat} {S S' : Nat → Nat → Prop} {L : List (Nat × Nat)} (h : gI pl want cp S L) (hs : ∀ v s, S v s ↔ S' v s) : gI pl want cp S' L := by
  have : S = S' := funext fun v => funext fun s => propext (hs v s)
  rw [← this]; exact h
theorem qReq_mem {L : List (Nat × Nat)} {f dd : Nat} {p : Nat × Nat} (h : p ∈ qReq L f dd) : p ∈ L ∨ p = (f, dd) := by
  unfold qReq at h
  split at h
  · exact Or.inl h
  · rw [List.mem_append, List.mem_filter, List.mem_singleton] at h
    rcases h with h | h
    · exact Or.inl h.1
    · exact Or.inr h
theorem qReq_len (L : List (Nat × Nat)) (f dd : Nat) : (qReq L f dd).length ≤ L.length + 1 := by
  unfold qReq
  split
  · omega
  · rw [List.length_append]
    have := List.length_filter_le (fun p : Nat × Nat => !decide (p.1 &&& f = f)) L
    show _ + 1 ≤ _
    omega
theorem qReq_has (L : List (Nat × Nat)) (f dd : Nat) : ∃ p, p ∈ qReq L f dd ∧ p.1 &&& f = p.1 := by
  unfold qReq
  split
  · rename_i h
    rw [List.any_eq_true] at h
    obtain ⟨p, h1, h2⟩ := h
    exact ⟨p, h1, of_decide_eq_true h2⟩
  · exact ⟨(f, dd), by rw [List.mem_append, List.mem_singleton]; exact Or.inr rfl, Nat.and_self f⟩
theorem sub_trans {a b c : Nat} (h : a &&& b = a) (h2 : b &&& c = b) : a &&& c = a :=
  sub_bit.mpr (fun k hk => sub_bit.mp h2 k (sub_bit.mp h k hk))
theorem qReq_keep {L : List (Nat × Nat)} {f dd g : Nat} (h : ∃ p, p ∈ L ∧ p.1 &&& g = p.1) : ∃ p, p ∈ qReq L f dd ∧ p.1 &&& g = p.1 := by
  obtain ⟨p, h1, h2⟩ := h
  unfold qReq
  split
  · exact ⟨p, h1, h2⟩
  · by_cases c : p.1 &&& f = f
    · refine ⟨(f, dd), by rw [List.mem_append, List.mem_singleton]; exact Or.inr rfl, ?_⟩
      exact sub_trans (by rw [Nat.and_comm]; exact c) h2
    · exact ⟨p, by rw [List.mem_append, List.mem_filter]; exact Or.inl ⟨h1, by rw [decide_eq_false c]; rfl⟩, h2⟩
theorem qReq_pw {L : List (Nat × Nat)} {f dd : Nat} (h : L.Pairwise (fun p q => ¬ p.1 &&& q.1 = p.1 ∧ ¬ q.1 &&& p.1 = q.1)) : (qReq L f dd).Pairwise (fun p q => ¬ p.1 &&& q.1 = p.1 ∧ ¬ q.1 &&& p.1 = q.1) := by
  unfold qReq
  split
  · exact h
  · rename_i na
    rw [List.pairwise_append]
    refine ⟨h.filter _, List.pairwise_singleton _ _, fun p hp q hq => ?_⟩
    rw [List.mem_singleton] at hq
    rw [List.mem_filter] at hp
    subst hq
    have n1 : ¬ p.1 &&& f = f := by
      have := hp.2
      intro c
      rw [decide_eq_true c] at this
      cases this
    refine ⟨fun c => na (List.any_eq_true.mpr ⟨p, hp.1, decide_eq_true c⟩), fun c => n1 (by rw [Nat.and_comm]; exact c)⟩
theorem gSt_I {pl : qP} {want : Nat → Nat → Nat} {cp : Nat → Nat} {S : Nat → Nat → Prop} {v : Nat} {L : List (Nat × Nat)} (h : gI pl want cp S L) : ∀ s, gI pl want cp (fun v' s' => S v' s' ∨ (v' = v ∧ s' < s)) (gSt pl want cp v L s)
  | 0 => gI_mono h (fun v' s' => ⟨fun q => Or.inl q, fun q => q.resolve_right (fun u => by omega)⟩)
  | s + 1 => by
    obtain ⟨a1, a2, a3⟩ := gSt_I (v := v) h s
    rw [gSt]
    split
    · rename_i fr
      rw [qFreeB_t] at fr
      refine ⟨fun p hp => ?_, a2, fun v' s' q nf => ?_⟩
      · obtain ⟨v', s', q, r⟩ := a1 p hp
        exact ⟨v', s', q.imp_right (fun u => ⟨u.1, by omega⟩), r⟩
      · rcases q with q | ⟨q1, q2⟩
        · exact a3 v' s' (Or.inl q) nf
        · rcases Nat.lt_or_ge s' s with u | u
          · exact a3 v' s' (Or.inr ⟨q1, u⟩) nf
          · obtain rfl : s' = s := by omega
            rw [q1] at nf
            exact absurd fr nf
    · rename_i fr
      rw [qFreeB_t] at fr
      refine ⟨fun p hp => ?_, qReq_pw a2, fun v' s' q nf => ?_⟩
      · rcases qReq_mem hp with hp | hp
        · obtain ⟨v', s', q, r⟩ := a1 p hp
          exact ⟨v', s', q.imp_right (fun u => ⟨u.1, by omega⟩), r⟩
        · rw [hp]
          exact ⟨v, s, Or.inr ⟨rfl, by omega⟩, rfl, rfl, fr⟩
      · by_cases e : v' = v ∧ s' = s
        · rw [e.1, e.2]; exact qReq_has _ _ _
        · refine qReq_keep (a3 v' s' ?_ nf)
          rcases q with q | ⟨q1, q2⟩
          · exact Or.inl q
          · exact Or.inr ⟨q1, by omega⟩
theorem gVl_I {pl : qP} {ask : Nat} {want : Nat → Nat → Nat} {cp : Nat → Nat} : ∀ n, gI pl want cp (fun v s => v < n ∧ ask.testBit v = true ∧ s < qSt pl v) (gVl pl ask want cp n)
  | 0 => ⟨fun p hp => (by cases hp), List.Pairwise.nil, fun v s q => absurd q.1 (Nat.not_lt_zero _)⟩
  | n + 1 => by
    have ih := gVl_I (pl := pl) (ask := ask) (want := want) (cp := cp) n
    rw [gVl]
    split
    · rename_i a
      refine gI_mono (gSt_I (v := n) ih (qSt pl n)) (fun v s => ⟨fun q => ?_, fun q => ?_⟩)
      · rcases q with q | ⟨rfl, q⟩
        · exact ⟨by omega, q.2⟩
        · exact ⟨by omega, a, q⟩
      · rcases Nat.lt_or_ge v n with u | u
        · exact Or.inl ⟨u, q.2⟩
        · obtain rfl : v = n := by omega
          exact Or.inr ⟨rfl, q.2.2⟩
    · rename_i a
      refine gI_mono ih (fun v s => ⟨fun q => ⟨by omega, q.2⟩, fun q => ⟨?_, q.2⟩⟩)
      by_cases e : v = n
      · rw [e] at q; exact absurd q.2.1 a
      · omega
theorem gSt_len {pl : qP} {want : Nat → Nat → Nat} {cp : Nat → Nat} {v : Nat} {L : List (Nat × Nat)} : ∀ s, (gSt pl want cp v L s).length ≤ L.length + s
  | 0 => Nat.le_refl _
  | s + 1 => by
    have ih := gSt_len (pl := pl) (want := want) (cp := cp) (v := v) (L := L) s
    rw [gSt]
    split
    · omega
    · have := qReq_len (gSt pl want cp v L s) (qAb pl want cp v s (qc pl)) (qSide pl v % 4)
      omega
theorem gVl_len {pl : qP} (w : qWf pl) {ask : Nat} {want : Nat → Nat → Nat} {cp : Nat → Nat} : ∀ n, (gVl pl ask want cp n).length ≤ 9 * n
  | 0 => Nat.le_refl _
  | n + 1 => by
    have ih := gVl_len w (ask := ask) (want := want) (cp := cp) n
    rw [gVl]
    split
    · have := gSt_len (pl := pl) (want := want) (cp := cp) (v := n) (L := gVl pl ask want cp n) (qSt pl n)
      have := qSt_le w n
      omega
    · omega
theorem gI_lt {pl : qP} {want : Nat → Nat → Nat} {cp : Nat → Nat} {S : Nat → Nat → Prop} {L : List (Nat × Nat)} (h : gI pl want cp S L) {p : Nat × Nat} (hp : p ∈ L) : p.1 < 2 ^ qc pl := by
  obtain ⟨v, s, _, e, _⟩ := h.1 p hp
  rw [e]; exact qAb_lt _
/-- cells in one strip as one side sees them are in one strip as the side across sees them -/
theorem qF_same {w h a b c e : Nat} (ha : a < 8) (hb : b < 8) (hab : a % 4 = b % 4) (hc : c < w * h) (he : e < w * h) (hF : qF w h a c = qF w h a e) : qF w h b c = qF w h b e := by
  have w0 : 0 < w := Nat.pos_of_ne_zero (fun q => by rw [q, Nat.zero_mul] at hc; omega)
  have c1 := Nat.mod_lt c w0
  have e1 := Nat.mod_lt e w0
  have c2 : c / w < h := (Nat.div_lt_iff_lt_mul w0).mpr (by rw [Nat.mul_comm]; exact hc)
  have e2 : e / w < h := (Nat.div_lt_iff_lt_mul w0).mpr (by rw [Nat.mul_comm]; exact he)
  rcases (show a = 0 ∨ a = 1 ∨ a = 2 ∨ a = 3 ∨ a = 4 ∨ a = 5 ∨ a = 6 ∨ a = 7 by omega) with rfl | rfl | rfl | rfl | rfl | rfl | rfl | rfl
  · rcases (show b = 0 ∨ b = 4 by omega) with rfl | rfl <;> simp only [qF] at hF ⊢ <;> omega
  · rcases (show b = 1 ∨ b = 5 by omega) with rfl | rfl <;> simp only [qF] at hF ⊢ <;> omega
  · rcases (show b = 2 ∨ b = 6 by omega) with rfl | rfl <;> simp only [qF] at hF ⊢ <;> omega
  · rcases (show b = 3 ∨ b = 7 by omega) with rfl | rfl <;> simp only [qF] at hF ⊢ <;> omega
  · rcases (show b = 0 ∨ b = 4 by omega) with rfl | rfl <;> simp only [qF] at hF ⊢ <;> omega
  · rcases (show b = 1 ∨ b = 5 by omega) with rfl | rfl <;> simp only [qF] at hF ⊢ <;> omega
  · rcases (show b = 2 ∨ b = 6 by omega) with rfl | rfl <;> simp only [qF] at hF ⊢ <;> omega
  · rcases (show b = 3 ∨ b = 7 by omega) with rfl | rfl <;> simp only [qF] at hF ⊢ <;> omega
theorem gI_dir {pl : qP} (w : qWf pl) {want : Nat → Nat → Nat} {cp : Nat → Nat} {S : Nat → Nat → Prop} {L : List (Nat × Nat)} (h : gI pl want cp S L) : L.Pairwise (fun p q => p.2 = q.2 → p.1 &&& q.1 = 0) := by
  have sd := w.2.2.2.2.2.2.2.2.2.1
  refine List.Pairwise.imp_of_mem (fun {p q} hp hq r e => ?_) h.2.1
  obtain ⟨v, s, _, p1, p2, _⟩ := h.1 p hp
  obtain ⟨v', s', _, q1, q2, _⟩ := h.1 q hq
  rw [and0_bit]
  rintro c ⟨u1, u2⟩
  refine r.1 (sub_bit.mpr (fun k hk => ?_))
  rw [p1, qAb_bit, Bool.and_eq_true, decide_eq_true_iff, decide_eq_true_iff] at u1 hk
  rw [q1, qAb_bit, Bool.and_eq_true, decide_eq_true_iff, decide_eq_true_iff] at u2 ⊢
  obtain ⟨c1, c2, c3⟩ := u1
  obtain ⟨k1, k2, k3⟩ := hk
  obtain ⟨_, d2, d3⟩ := u2
  refine ⟨k1, ?_, by omega⟩
  have := qF_same (w := qw pl) (h := qh pl) (sd v) (sd v') (by omega) k1 c1 (k2.trans c2.symm)
  exact this.trans d2
/-- what the search has, of the whole family -/
noncomputable def gL (pl : qP) (ask : Nat) (want : Nat → Nat → Nat) (cp : Nat → Nat) : List (Nat × Nat) := (gVl pl ask want cp (qn pl)).filter (fun p => !qSing p)
noncomputable def gF (pl : qP) (ask : Nat) (want : Nat → Nat → Nat) (cp : Nat → Nat) : Nat := qFo (gVl pl ask want cp (qn pl)) 0
theorem qFo_bit (c : Nat) : ∀ (l : List (Nat × Nat)) (a : Nat), (qFo l a).testBit c = true ↔ a.testBit c = true ∨ ∃ p, p ∈ l ∧ qSing p = true ∧ p.1.testBit c = true
  | [], a => ⟨fun h => Or.inl h, fun h => h.resolve_right (fun ⟨p, hp, _⟩ => by cases hp)⟩
  | p :: t, a => by
    show (qFo t (if qSing p then a ||| p.1 else a)).testBit c = true ↔ _
    rw [qFo_bit c t]
    constructor
    · rintro (h | ⟨q, h1, h2⟩)
      · by_cases e : qSing p = true
        · rw [if_pos e, Nat.testBit_or, Bool.or_eq_true] at h
          rcases h with h | h
          · exact Or.inl h
          · exact Or.inr ⟨p, List.mem_cons_self, e, h⟩
        · rw [if_neg e] at h; exact Or.inl h
      · exact Or.inr ⟨q, List.mem_cons_of_mem _ h1, h2⟩
    · rintro (h | ⟨q, h1, h2, h3⟩)
      · left
        split
        · rw [Nat.testBit_or, h, Bool.true_or]
        · exact h
      · rcases List.mem_cons.mp h1 with rfl | h1
        · left
          rw [if_pos h2, Nat.testBit_or, h3, Bool.or_true]
        · exact Or.inr ⟨q, h1, h2, h3⟩
theorem qPop_one {n : Nat} (hn : n < 2 ^ 32) : qPop n = 1 ↔ ∃ c, n = 2 ^ c := by
  unfold qPop
  constructor
  · intro h
    obtain ⟨c, h1, h2⟩ := fb_ct_pos.mp (show 0 < fb_ct n.testBit 32 by omega)
    refine ⟨c, Nat.eq_of_testBit_eq (fun i => ?_)⟩
    rw [Nat.testBit_two_pow]
    by_cases e : c = i
    · rw [← e, h2, decide_eq_true rfl]
    · rw [decide_eq_false e]
      cases u : n.testBit i
      · rfl
      · exfalso
        have i32 := bit_lt hn u
        have := fb_ct_upd n.testBit false h1
        rw [h2, h] at this
        have z : fb_ct (fun k => if k = c then false else n.testBit k) 32 = 0 := by
          have t : fb_ct (fun k => if k = c then false else n.testBit k) 32 + 1 = 1 + 0 := this
          omega
        have := fb_ct_zero.mp z i i32
        rw [if_neg (fun q => e q.symm), u] at this
        cases this
  · rintro ⟨c, rfl⟩
    have c32 : c < 32 := (Nat.pow_lt_pow_iff_right (by decide)).mp hn
    have e : (2 ^ c).testBit = fun k => if k = c then true else (fun _ => false) k := funext fun k => by
      rw [Nat.testBit_two_pow]
      by_cases q : k = c
      · rw [if_pos q, decide_eq_true q.symm]
      · rw [if_neg q, decide_eq_false (fun u => q u.symm)]
    rw [e]
    have := fb_ct_upd (fun _ => false) true c32
    have z : fb_ct (fun _ => false) 32 = 0 := fb_ct_zero.mpr (fun _ _ => rfl)
    rw [z] at this
    exact this
section FAM
variable {pl : qP} {ask : Nat} {want : Nat → Nat → Nat} {cp : Nat → Nat}
theorem gV_sing (w : qWf pl) {p : Nat × Nat} (hp : p ∈ gVl pl ask want cp (qn pl)) : qSing p = true ↔ ∃ c, p.1 = 2 ^ c := by
  have h1 := gI_lt (gVl_I (qn pl)) hp
  have c25 := w.c25
  unfold qSing
  rw [decide_eq_true_iff]
  exact qPop_one (Nat.lt_trans h1 (Nat.pow_lt_pow_right (by decide) (by omega)))
theorem gV_fam {p : Nat × Nat} (hp : p ∈ gVl pl ask want cp (qn pl)) : qFam pl ask want cp p.1 := by
  obtain ⟨v, s, ⟨h1, h2, h3⟩, h4, _, h5⟩ := (gVl_I (qn pl)).1 p hp
  exact ⟨v, s, h1, h2, h3, h4, h5⟩
theorem fam_gV {f : Nat} (h : qFam pl ask want cp f) : ∃ p, p ∈ gVl pl ask want cp (qn pl) ∧ p.1 &&& f = p.1 := by
  obtain ⟨v, s, h1, h2, h3, rfl, h5⟩ := h
  exact (gVl_I (qn pl)).2.2 v s ⟨h1, h2, h3⟩ h5
theorem gF_bit (w : qWf pl) (c : Nat) : (gF pl ask want cp).testBit c = true ↔ ∃ p, p ∈ gVl pl ask want cp (qn pl) ∧ p.1 = 2 ^ c := by
  unfold gF
  rw [qFo_bit, Nat.zero_testBit]
  constructor
  · rintro (h | ⟨p, h1, h2, h3⟩)
    · cases h
    · obtain ⟨k, hk⟩ := (gV_sing w h1).mp h2
      rw [hk, Nat.testBit_two_pow, decide_eq_true_iff] at h3
      exact ⟨p, h1, by rw [hk, h3]⟩
  · rintro ⟨p, h1, h2⟩
    exact Or.inr ⟨p, h1, (gV_sing w h1).mpr ⟨c, h2⟩, by rw [h2, Nat.testBit_two_pow_self]⟩
theorem gF_lt (w : qWf pl) : gF pl ask want cp < 2 ^ qc pl := by
  apply Nat.lt_pow_two_of_testBit
  intro i hi
  cases e : (gF pl ask want cp).testBit i
  · rfl
  · obtain ⟨p, h1, h2⟩ := (gF_bit w i).mp e
    have := gI_lt (gVl_I (qn pl)) h1
    rw [h2] at this
    have := (Nat.pow_lt_pow_iff_right (by decide)).mp this
    omega
theorem gL_mem {p : Nat × Nat} : p ∈ gL pl ask want cp ↔ p ∈ gVl pl ask want cp (qn pl) ∧ qSing p = false := by
  unfold gL
  rw [List.mem_filter]
  refine and_congr_right (fun _ => ?_)
  cases qSing p <;> simp
theorem hit_mono {C f g : Nat} {R : Nat → Bool} (h : qHit C f R) (hs : f &&& g = f) : qHit C g R := by
  obtain ⟨c, h1, h2, h3⟩ := h
  exact ⟨c, h1, sub_bit.mp hs c h2, h3⟩
theorem gV_ok (w : qWf pl) (R : Nat → Bool) : qOkR pl ask want cp R ↔ sV (qc pl) (gL pl ask want cp) (gF pl ask want cp) 0 R := by
  constructor
  · intro h
    refine ⟨fun c hc e => ?_, fun c _ e => (by rw [Nat.zero_testBit] at e; cases e), fun p hp => h _ (gV_fam (gL_mem.mp hp).1)⟩
    obtain ⟨p, h1, h2⟩ := (gF_bit w c).mp e
    obtain ⟨k, k1, k2, k3⟩ := h _ (gV_fam h1)
    rw [h2, Nat.testBit_two_pow, decide_eq_true_iff] at k2
    rw [k2]; exact k3
  · rintro ⟨h1, _, h3⟩ f hf
    obtain ⟨p, p1, p2⟩ := fam_gV hf
    cases e : qSing p
    · exact hit_mono (h3 p (gL_mem.mpr ⟨p1, e⟩)) p2
    · obtain ⟨c, hc⟩ := (gV_sing w p1).mp e
      have lt := gI_lt (gVl_I (qn pl)) p1
      rw [hc] at lt
      have cl := (Nat.pow_lt_pow_iff_right (by decide)).mp lt
      refine hit_mono ⟨c, cl, by rw [hc, Nat.testBit_two_pow_self], h1 c cl ((gF_bit w c).mpr ⟨p, p1, hc⟩)⟩ p2
theorem gL_sL (w : qWf pl) {wt : Nat → Nat} (hw : ∀ c, c < qc pl → wt c ≤ 2 ^ 40) : sL (qc pl) (gL pl ask want cp) wt := by
  refine ⟨w.c25, fun p hp => ?_, ?_, (gI_dir w (gVl_I (qn pl))).filter _, hw⟩
  · obtain ⟨v, s, _, _, h2, _⟩ := (gVl_I (qn pl)).1 p (gL_mem.mp hp).1
    exact ⟨gI_lt (gVl_I (qn pl)) (gL_mem.mp hp).1, by rw [h2]; exact Nat.mod_lt _ (by decide)⟩
  · have := gVl_len w (ask := ask) (want := want) (cp := cp) (qn pl)
    have := w.2.2.2.1
    have : (gL pl ask want cp).length ≤ (gVl pl ask want cp (qn pl)).length := List.length_filter_le _ _
    omega
/-- all can be kept: no wanted set is empty -/
def qNz (pl : qP) (ask : Nat) (want : Nat → Nat → Nat) (cp : Nat → Nat) : Prop := ∀ v s, v < qn pl → ask.testBit v = true → s < qSt pl v → ¬ qAb pl want cp v s (qc pl) = 0
theorem fam_nz (hz : qNz pl ask want cp) {f : Nat} (h : qFam pl ask want cp f) : ¬ f = 0 := by
  obtain ⟨v, s, h1, h2, h3, rfl, _⟩ := h
  exact hz v s h1 h2 h3
theorem gL_nz (hz : qNz pl ask want cp) : ∀ p, p ∈ gL pl ask want cp → ¬ p.1 = 0 := fun p hp => fam_nz hz (gV_fam (gL_mem.mp hp).1)
theorem gF_fam (w : qWf pl) (hz : qNz pl ask want cp) (c : Nat) : (gF pl ask want cp).testBit c = true ↔ qFam pl ask want cp (2 ^ c) := by
  rw [gF_bit w]
  constructor
  · rintro ⟨p, h1, h2⟩
    rw [← h2]; exact gV_fam h1
  · intro h
    obtain ⟨p, h1, h2⟩ := fam_gV h
    refine ⟨p, h1, ?_⟩
    have nz := fam_nz hz (gV_fam h1)
    obtain ⟨k, hk⟩ := ne0_bit.mp nz
    have := sub_bit.mp h2 k hk
    rw [Nat.testBit_two_pow, decide_eq_true_iff] at this
    apply Nat.eq_of_testBit_eq
    intro i
    rw [Nat.testBit_two_pow]
    by_cases e : c = i
    · rw [decide_eq_true e, ← e, this]; exact hk
    · rw [decide_eq_false e]
      cases u : p.1.testBit i
      · rfl
      · have := sub_bit.mp h2 i u
        rw [Nat.testBit_two_pow, decide_eq_true_iff] at this
        exact absurd this e
theorem gL_fo (w : qWf pl) {p : Nat × Nat} (hp : p ∈ gL pl ask want cp) (c : Nat) (h : p.1.testBit c = true) : (gF pl ask want cp).testBit c = false := by
  cases e : (gF pl ask want cp).testBit c
  · rfl
  · exfalso
    obtain ⟨q, h1, h2⟩ := (gF_bit w c).mp e
    obtain ⟨p1, p2⟩ := gL_mem.mp hp
    have ne : p ≠ q := fun u => by
      rw [u] at p2
      rw [(gV_sing w h1).mpr ⟨c, h2⟩] at p2
      cases p2
    have sub : q.1 &&& p.1 = q.1 := sub_bit.mpr (fun k hk => by
      rw [h2, Nat.testBit_two_pow, decide_eq_true_iff] at hk
      rw [← hk]; exact h)
    have pw := (gVl_I (pl := pl) (ask := ask) (want := want) (cp := cp) (qn pl)).2.1
    obtain ⟨i, hi⟩ := List.getElem?_of_mem p1
    obtain ⟨j, hj⟩ := List.getElem?_of_mem h1
    rw [List.pairwise_iff_getElem] at pw
    obtain ⟨il, ie⟩ := List.getElem?_eq_some_iff.mp hi
    obtain ⟨jl, je⟩ := List.getElem?_eq_some_iff.mp hj
    rcases Nat.lt_trichotomy i j with u | u | u
    · have := (pw i j il jl u).2
      rw [ie, je] at this
      exact this sub
    · subst u
      exact ne (ie.symm.trans je)
    · have := (pw j i jl il u).1
      rw [ie, je] at this
      exact this sub
end FAM
