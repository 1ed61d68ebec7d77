/-! slots of the class's count -/
def lnd (L : List (Nat × Nat)) (k : Nat) : Nat := (L.getD k (0, 0)).1
theorem lnd_at {L : List (Nat × Nat)} {k : Nat} (h : k < L.length) : ∃ p, p ∈ L ∧ L[k]? = some p ∧ lnd L k = p.1 := by
  obtain ⟨p, h1, h2⟩ := at_some h
  refine ⟨p, h2, h1, ?_⟩
  unfold lnd
  rw [List.getD_eq_getElem?_getD, h1]; rfl
theorem ct_inj {p q : Nat → Bool} {f : Nat → Nat} {N : Nat} : ∀ {m : Nat}, (∀ k, k < m → p k = true → f k < N ∧ q (f k) = true) → (∀ i j, i < j → j < m → p i = true → p j = true → f i ≠ f j) → fb_ct p m ≤ fb_ct q N := by
  intro m
  induction m generalizing q with
  | zero => intro _ _; exact Nat.zero_le _
  | succ m ih =>
    intro h1 h2
    cases e : p m
    · rw [fb_ct_succ, e]
      exact ih (fun k hk => h1 k (by omega)) (fun i j hij hj => h2 i j hij (by omega))
    · rw [fb_ct_succ, e]
      obtain ⟨a1, a2⟩ := h1 m (by omega) e
      have u := fb_ct_upd q false a1
      rw [a2] at u
      have v := ih (q := fun k => if k = f m then false else q k) (fun k hk pk => by
        obtain ⟨c1, c2⟩ := h1 k (by omega) pk
        exact ⟨c1, by rw [if_neg (h2 k m hk (by omega) pk e)]; exact c2⟩) (fun i j hij hj => h2 i j hij (by omega))
      have u' : fb_ct (fun k => if k = f m then false else q k) N + 1 = fb_ct q N + 0 := u
      show fb_ct p m + 1 ≤ _
      omega
def qZb (h : Nat) : Nat := qFst (fun i => !h.testBit i) 12
theorem jTz_zero : ∀ h, h < 2048 → jTz (((nI h ^^^ (-1)) ^^^ (-1)) &&& ((nI h ^^^ (-1)) - 1)) = nI (qZb h) := by decide +kernel
theorem qZb_spec {h : Nat} (hh : h < 2 ^ 11) : qZb h ≤ 11 ∧ h.testBit (qZb h) = false ∧ ∀ i, i < qZb h → h.testBit i = true := by
  have le : qZb h < 12 := by
    rcases Nat.lt_or_ge (qZb h) 12 with u | u
    · exact u
    · exfalso
      have e : qZb h = 12 := Nat.le_antisymm (qFst_le _ _) u
      have e11 : h.testBit 11 = false := Nat.testBit_lt_two_pow hh
      obtain ⟨i, i1, i2, i3⟩ := fb_first (p := fun i => (!h.testBit i) = true) (n := 12) ⟨11, by decide, by rw [e11]; rfl⟩
      have := qFst_at (p := fun i => !h.testBit i) (i := i) (fun j hj => by have := i3 j hj; revert this; cases h.testBit j <;> simp) i2 i1
      have e' : qFst (fun i => !h.testBit i) 12 = 12 := e
      omega
  obtain ⟨h1, h2⟩ := qFst_yes (p := fun i => !h.testBit i) (n := 12) le
  refine ⟨by omega, ?_, fun i hi => ?_⟩
  · have : (!h.testBit (qZb h)) = true := h1
    revert this; cases h.testBit (qZb h) <;> simp
  · have : (!h.testBit i) = false := h2 i hi
    revert this; cases h.testBit i <;> simp
theorem nI_testBit0 (n : Nat) {v : Nat} (hn : n < 2 ^ 31) (hv : v < 31) : ((nI n >>> (nI v &&& 31)) &&& (1 : Int32)) = 0 ↔ n.testBit v = false := by
  have h1 := nI_testBit n hn hv
  rw [nI_bit n hn hv] at h1 ⊢
  have r : n >>> v % 2 = 0 ∨ n >>> v % 2 = 1 := by omega
  rcases r with r | r
  · rw [r] at h1 ⊢
    refine ⟨fun _ => ?_, fun _ => rfl⟩
    cases e : n.testBit v
    · rfl
    · exact absurd (h1.mpr e) (by decide)
  · rw [r] at h1 ⊢
    refine ⟨fun u => absurd u (by decide), fun u => ?_⟩
    have := h1.mp rfl
    rw [u] at this
    cases this
section SLT
variable {x : jX} {d : Nat} {M : jM} {L : List (Nat × Nat)} {sl lo hi : Nat → Nat}
theorem tM_lt {P : Nat → Prop} : ∀ n, (∀ k, k < n → P k → sl k < 11) → tM sl P n < 2 ^ 11 := fun n h => by
  apply Nat.lt_pow_two_of_testBit
  intro i hi
  cases e : (tM sl P n).testBit i
  · rfl
  · obtain ⟨k, k1, k2, k3⟩ := (tM_bit i n).mp e
    have := h k k1 k2
    omega
theorem k_slotsMet {P : jM → Int32 → Prop} {c : Nat} (hr : rq M L) (hL : ∀ p, p ∈ L → p.1 < 2 ^ 25) (hs : ∀ k, k < L.length → M.1 59 k = nI (sl k) ∧ sl k < 11) (hc : c < 25) (h : ∀ met, met < 2 ^ 11 → (∀ j, met.testBit j = true ↔ ∃ k, k < L.length ∧ (lnd L k).testBit c = true ∧ sl k = j) → P M (nI met)) : JC x jtbC mX1_slotsMet d [.ref (x.2.2.2 55), .int (nI c)] M (jI P) := by
  obtain ⟨r1, r2, r3⟩ := hr
  refine b_X1_slotsMet ?_
  refine jloop (fun i (a : Int32) => JW x jtbC mX1_slotsMet d (jI P) 4 [(0, .ref (x.2.2.2 55)), (1, .int (nI c)), (2, .int a), (3, .int (nI i))] [] M) (fun i a => a = nI (tM sl (fun k => (lnd L k).testBit c = true) i)) L.length ?_ ?_ 0 0 (Nat.zero_le _) rfl
  · rintro _ rfl
    refine b_X1_slotsMet_4 ?_
    rw [r1]
    refine pk_le L.length L.length (fun _ => h _ (tM_lt _ (fun k hk _ => (hs k hk).2)) (fun j => tM_bit j _)) (fun c => absurd c (by omega))
  · rintro i _ hi rfl ih
    obtain ⟨p, p1, p2, p3⟩ := lnd_at hi
    have p31 : p.1 < 2 ^ 31 := Nat.lt_trans (hL p p1) (by decide)
    refine b_X1_slotsMet_4 ?_
    rw [r1]
    refine pk_le L.length i (fun c => absurd c (by omega)) (fun _ => ⟨i, by omega, rfl, ?_⟩)
    rw [(r3 i p p2).1, nI_testBit _ p31 (by omega), nI_or0, (hs i hi).1, nI_set (by have := (hs i hi).2; omega), nI_1, ← p3]
    refine ⟨fun u => ih _ ?_, fun u => ih _ ?_⟩
    · rw [tM, if_neg (fun v => u (qB_t.mp v)), Nat.or_zero]
    · rw [tM, if_pos (qB_t.mpr u)]
theorem k_slotsClosing {P : jM → Int32 → Prop} {c : Nat} (hr : rq M L) (hh : ∀ k, k < L.length → qHi (lnd L k) (hi k) ∧ hi k < 25) (hs : ∀ k, k < L.length → hi k = c → M.1 59 k = nI (sl k) ∧ sl k < 11) (hc : c < 25) (h : ∀ cl, cl < 2 ^ 11 → (∀ j, cl.testBit j = true ↔ ∃ k, k < L.length ∧ hi k = c ∧ sl k = j) → P M (nI cl)) : JC x jtbC mX1_slotsClosing (d + 1) [.ref (x.2.2.2 55), .int (nI c)] M (jI P) := by
  obtain ⟨r1, r2, r3⟩ := hr
  refine b_X1_slotsClosing ?_
  refine jloop (fun i (a : Int32) => JW x jtbC mX1_slotsClosing (d + 1) (jI P) 4 [(0, .ref (x.2.2.2 55)), (1, .int (nI c)), (2, .int a), (3, .int (nI i))] [] M) (fun i a => a = nI (tM sl (fun k => hi k = c) i)) L.length ?_ ?_ 0 0 (Nat.zero_le _) rfl
  · rintro _ rfl
    refine b_X1_slotsClosing_4 ?_
    rw [r1]
    refine pk_le L.length L.length (fun _ => h _ (tM_lt _ (fun k hk e => (hs k hk e).2)) (fun j => tM_bit j _)) (fun c => absurd c (by omega))
  · rintro i _ hil rfl ih
    obtain ⟨p, p1, p2, p3⟩ := lnd_at hil
    obtain ⟨q1, q2⟩ := hh i hil
    refine b_X1_slotsClosing_4 ?_
    rw [r1]
    refine pk_le L.length i (fun c => absurd c (by omega)) (fun _ => ⟨i, by omega, rfl, ?_⟩)
    rw [(r3 i p p2).1, ← p3]
    refine k_nlz q1 (by omega) ?_
    rw [show (31 : Int32) = nI 31 from rfl, pk_sub (by omega), show 31 - (31 - hi i) = hi i by omega, nI_eq (by omega) (by omega)]
    refine ⟨fun u => b_X1_slotsClosing_33 ⟨fun _ => ?_, fun v => absurd rfl v⟩, fun u => b_X1_slotsClosing_33 ⟨fun v => absurd v (by decide), fun _ => ⟨i, by omega, rfl, ?_⟩⟩⟩
    · rw [nI_or0, nI_1]
      refine ih _ ?_
      rw [tM, if_neg (fun v => u (qB_t.mp v)), Nat.or_zero]
    · rw [(hs i hil u).1, nI_set (by have := (hs i hil u).2; omega), nI_1]
      refine ih _ ?_
      rw [tM, if_pos (qB_t.mpr u)]
/-- slots that have been given so far -/
def hS (L : List (Nat × Nat)) (lo hi sl : Nat → Nat) (A : Nat → Prop) (c h : Nat) (M' : jM) : Prop :=
  (∀ k, k < L.length → A k → M'.1 59 k = nI (sl k) ∧ sl k < 11) ∧ (∀ i j, i < L.length → j < L.length → A i → A j → i ≠ j → lo i ≤ hi j → lo j ≤ hi i → sl i ≠ sl j) ∧ h < 2 ^ 11 ∧ ∀ b, h.testBit b = true ↔ ∃ k, k < L.length ∧ A k ∧ c ≤ hi k ∧ sl k = b
def hRc (L : List (Nat × Nat)) (lo hi sl : Nat → Nat) (c : Nat) (M' : jM) : Prop := ∀ c', c' < c → ∃ e, e ≤ 11 ∧ M'.1 60 c' = nI (2 ^ e) ∧ ∀ k, k < L.length → lo k ≤ c' → c' ≤ hi k → sl k < e
theorem k_holdSlots {P : jM → Bool → Prop} {C : Nat} (hC : C ≤ 25) (hr : rq M L) (hh : ∀ k, k < L.length → qLb (lnd L k) (lo k) ∧ qHi (lnd L k) (hi k) ∧ hi k < C ∧ lnd L k < 2 ^ 25) (hact : ∀ c, c < C → fb_ct (fun k => decide (lo k ≤ c ∧ c ≤ hi k)) L.length ≤ 11) (h : ∀ M' sl, jsame (fun q => q = 59 ∨ q = 60) M M' → M'.2 = M.2 → (∀ k, k < L.length → M'.1 59 k = nI (sl k) ∧ sl k < 11) → (∀ i j, i < L.length → j < L.length → i ≠ j → lo i ≤ hi j → lo j ≤ hi i → sl i ≠ sl j) → hRc L lo hi sl C M' → P M' true) : JC x jtbC mX1_holdSlots (d + 2) [.ref (x.2.2.2 55), .int (nI C)] M (jZ P) := by
  obtain ⟨r1, r2, r3⟩ := id hr
  have lohi : ∀ k, k < L.length → lo k ≤ hi k := fun k hk => by
    obtain ⟨a1, a2, _⟩ := hh k hk
    exact (qHi_bit a2).2 _ a1.1
  refine b_X1_holdSlots (d := d + 1) ?_
  refine jloop2 (fun c (M1 : jM) (hd : Nat) => JW x jtbC mX1_holdSlots (d + 2) (jZ P) 4 [(0, .ref (x.2.2.2 55)), (1, .int (nI C)), (2, .int (nI hd)), (3, .int (nI c))] [] M1) (fun c M1 hd => jsame (fun q => q = 59 ∨ q = 60) M M1 ∧ M1.2 = M.2 ∧ ∃ sl, hS L lo hi sl (fun k => lo k < c) c hd M1 ∧ hRc L lo hi sl c M1) C ?_ ?_ 0 M 0 (Nat.zero_le _) ⟨jsame.rf, rfl, fun _ => 0, ⟨fun k _ a => absurd a (Nat.not_lt_zero _), fun i j _ _ a => absurd a (Nat.not_lt_zero _), by decide, fun b => ⟨fun u => (by rw [Nat.zero_testBit] at u; cases u), fun ⟨k, _, a, _⟩ => absurd a (Nat.not_lt_zero _)⟩⟩, fun c' hc' => absurd hc' (Nat.not_lt_zero _)⟩
  · rintro M1 hd ⟨g1, g2, sl, ⟨g3, g4, g5, g6⟩, g7⟩
    refine b_X1_holdSlots_4 (pk_le C C (fun _ => h M1 sl g1 g2 (fun k hk => g3 k hk ?_) (fun i j hi' hj => g4 i j hi' hj ?_ ?_) g7) (fun c => absurd c (by omega)))
    · have := lohi k hk; have := (hh k hk).2.2.1; show lo k < C; omega
    · have := lohi i hi'; have := (hh i hi').2.2.1; show lo i < C; omega
    · have := lohi j hj; have := (hh j hj).2.2.1; show lo j < C; omega
  · rintro c M1 hd hc ⟨g1, g2, sl, g3, g7⟩ ih
    refine b_X1_holdSlots_4 (pk_le C c (fun u => absurd u (by omega)) (fun _ => ?_))
    refine jloop2 (fun k (M2 : jM) (hd2 : Nat) => JW x jtbC mX1_holdSlots (d + 2) (jZ P) 12 [(0, .ref (x.2.2.2 55)), (1, .int (nI C)), (2, .int (nI hd2)), (3, .int (nI c)), (4, .int (nI k))] [] M2) (fun k M2 hd2 => jsame (fun q => q = 59 ∨ q = 60) M M2 ∧ M2.2 = M.2 ∧ ∃ sl, hS L lo hi sl (fun j => lo j < c ∨ (lo j = c ∧ j < k)) c hd2 M2 ∧ hRc L lo hi sl c M2) L.length ?_ ?_ 0 M1 hd (Nat.zero_le _) ⟨g1, g2, sl, ?_, g7⟩
    · rintro M2 hd2 ⟨f1, f2, sl2, ⟨f3, f4, f5, f6⟩, f7⟩
      refine b_X1_holdSlots_12 ?_
      rw [(f1 55 (by omega)).1, r1]
      refine pk_le L.length L.length (fun _ => pk_lt hd2 2048 (fun _ => ?_) (fun u => absurd u (by omega))) (fun u => absurd u (by omega))
      have actA : ∀ k, k < L.length → lo k ≤ c → (lo k < c ∨ (lo k = c ∧ k < L.length)) := fun k hk u => by
        rcases Nat.lt_or_ge (lo k) c with v | v
        · exact Or.inl v
        · exact Or.inr ⟨by omega, hk⟩
      -- the reach
      have go : ∀ (r : Int32) (e : Nat), e ≤ 11 → (1 : Int32) <<< (((32 : Int32) - r) &&& 31) = nI (2 ^ e) → (∀ k, k < L.length → lo k ≤ c → c ≤ hi k → sl2 k < e) → ∃ j1, j1 < 25 ∧ nI c = nI j1 ∧ (∀ M3, M3 = jrI M2 60 (upd (M2.1 60) j1 ((1 : Int32) <<< (((32 : Int32) - r) &&& 31))) → JC x jtbC mX1_slotsClosing (d + 1) [.ref (x.2.2.2 55), .int (nI c)] M3 (jI fun M4 r2 => JW x jtbC mX1_holdSlots (d + 2) (jZ P) 4 [(0, .ref (x.2.2.2 55)), (1, .int (nI C)), (2, .int (nI hd2 &&& (r2 ^^^ (-1 : Int32)))), (3, .int (nI c + 1))] [] M4)) := fun r e e11 er he => by
        refine ⟨c, by omega, rfl, ?_⟩
        intro M3 e3
        rw [er] at e3
        have s3 : jsame (fun q => q = 59 ∨ q = 60) M M3 := by rw [e3]; exact f1.tr (jsame.I (Or.inr rfl))
        have r59 : M3.1 59 = M2.1 59 := by rw [e3, jrI_n (by omega)]
        have rq3 : rq M3 L := ⟨by rw [(s3 55 (by omega)).1]; exact r1, r2, fun k p hk => by rw [(s3 56 (by omega)).1, (s3 57 (by omega)).1]; exact r3 k p hk⟩
        refine k_slotsClosing (hi := hi) (sl := sl2) rq3 (fun k hk => ⟨(hh k hk).2.1, by have := (hh k hk).2.2.1; omega⟩) (fun k hk ek => ?_) (by omega) (fun cl c1 c2 => ?_)
        · rw [r59]; exact f3 k hk (actA k hk (by have := lohi k hk; omega))
        · rw [nI_not, nI_1]
          have nb := not_bit (n := hd2) (lo := cl) (Nat.lt_trans f5 (by decide))
          have nl : hd2 &&& (cl ^^^ (2 ^ 32 - 1)) < 2 ^ 11 := Nat.lt_of_le_of_lt Nat.and_le_left f5
          generalize hd2 &&& (cl ^^^ (2 ^ 32 - 1)) = hd3 at nb nl ⊢
          refine ih M3 hd3 ⟨s3, by rw [e3]; exact f2, sl2, ⟨fun k hk a => by rw [r59]; exact f3 k hk (actA k hk (by omega)), fun i j hi' hj a1 a2 => f4 i j hi' hj (actA i hi' (by omega)) (actA j hj (by omega)), nl, fun b => ?_⟩, fun c' hc' => ?_⟩
          · rw [nb, Bool.and_eq_true]
            constructor
            · rintro ⟨u1, u2⟩
              obtain ⟨k, k1, k2, k3, k4⟩ := (f6 b).mp u1
              refine ⟨k, k1, (by rcases k2 with k2 | k2 <;> omega), ?_, k4⟩
              rcases Nat.lt_or_ge c (hi k) with v | v
              · omega
              · exfalso
                rw [(c2 b).mpr ⟨k, k1, by omega, k4⟩] at u2
                cases u2
            · rintro ⟨k, k1, k2, k3, k4⟩
              have k2' : lo k < c + 1 := k2
              refine ⟨(f6 b).mpr ⟨k, k1, actA k k1 (by omega), by omega, k4⟩, ?_⟩
              cases v : cl.testBit b
              · rfl
              · exfalso
                obtain ⟨k', a1, a2, a3⟩ := (c2 b).mp v
                have lk' := lohi k' a1
                by_cases e : k = k'
                · rw [e] at k3; omega
                · exact f4 k k' k1 a1 (actA k k1 (by omega)) (actA k' a1 (by omega)) e (by omega) (by omega) (k4.trans a3.symm)
          · rcases Nat.lt_or_ge c' c with u | u
            · obtain ⟨e', q1, q2, q3⟩ := f7 c' u
              exact ⟨e', q1, by rw [e3, jrI_s, pk_un (by omega)]; exact q2, q3⟩
            · obtain rfl : c' = c := by omega
              exact ⟨e, e11, by rw [e3, jrI_s, pk_us], he⟩
      by_cases h0 : hd2 = 0
      · refine k_lz ?_
        have e0 : jLz (nI hd2) = 32 := by rw [h0]; decide +kernel
        rw [e0]
        refine go 32 0 (by omega) (by decide +kernel) (fun k hk u1 u2 => ?_)
        have := (f6 (sl2 k)).mpr ⟨k, hk, actA k hk u1, u2, rfl⟩
        rw [h0, Nat.zero_testBit] at this
        cases this
      · obtain ⟨t, ht⟩ := qHi_ex h0
        have t11 := qHi_lt ht f5
        refine k_nlz ht (by omega) ?_
        refine go (nI (31 - t)) (t + 1) (by omega) ?_ (fun k hk u1 u2 => ?_)
        · rw [show (32 : Int32) = nI 32 from rfl, pk_sub (by omega), show 32 - (31 - t) = t + 1 by omega]
          exact nI_shl1 _ (by omega)
        · have := (qHi_bit ht).2 (sl2 k) ((f6 (sl2 k)).mpr ⟨k, hk, actA k hk u1, u2, rfl⟩)
          omega
    · rintro k M2 hd2 hk ⟨f1, f2, sl2, ⟨f3, f4, f5, f6⟩, f7⟩ ihk
      obtain ⟨p, p1, p2, p3⟩ := lnd_at hk
      obtain ⟨l1, l2, l3, l4⟩ := hh k hk
      have lk := lohi k hk
      refine b_X1_holdSlots_12 ?_
      rw [(f1 55 (by omega)).1, r1]
      refine pk_le L.length k (fun u => absurd u (by omega)) (fun _ => ⟨k, by omega, rfl, ?_⟩)
      rw [(f1 56 (by omega)).1, (r3 k p p2).1, ← p3]
      refine k_ntz l1 (Nat.lt_trans l4 (by decide)) ?_
      rw [nI_eq (by omega) (by omega), nI_1]
      refine ⟨fun u => ihk M2 hd2 ⟨f1, f2, sl2, ⟨fun j hj a => f3 j hj ?_, fun i j hi' hj a1 a2 => f4 i j hi' hj ?_ ?_, f5, fun b => (f6 b).trans ⟨fun ⟨j, j1, j2, j3⟩ => ⟨j, j1, ?_, j3⟩, fun ⟨j, j1, j2, j3⟩ => ⟨j, j1, ?_, j3⟩⟩⟩, f7⟩, fun u => ?_⟩
      · rcases a with a | ⟨a, a'⟩
        · exact Or.inl a
        · exact Or.inr ⟨a, by by_cases e : j = k; (rw [e] at a; exact absurd a u); omega⟩
      · rcases a1 with a | ⟨a, a'⟩
        · exact Or.inl a
        · exact Or.inr ⟨a, by by_cases e : i = k; (rw [e] at a; exact absurd a u); omega⟩
      · rcases a2 with a | ⟨a, a'⟩
        · exact Or.inl a
        · exact Or.inr ⟨a, by by_cases e : j = k; (rw [e] at a; exact absurd a u); omega⟩
      · rcases j2 with a | ⟨a, a'⟩
        · exact Or.inl a
        · exact Or.inr ⟨a, by omega⟩
      · rcases j2 with a | ⟨a, a'⟩
        · exact Or.inl a
        · exact Or.inr ⟨a, by by_cases e : j = k; (rw [e] at a; exact absurd a u); omega⟩
      · refine k_tz ?_
        rw [jTz_zero hd2 f5]
        obtain ⟨z1, z2, z3⟩ := qZb_spec f5
        have t11 : qZb hd2 < 11 := by
          apply Classical.byContradiction
          intro n
          have full : ∀ i, i < 11 → hd2.testBit i = true := fun i hi' => z3 i (by omega)
          have ex : ∀ i, i < 11 → ∃ j, j < L.length ∧ (lo j < c ∨ (lo j = c ∧ j < k)) ∧ c ≤ hi j ∧ sl2 j = i := fun i hi' => (f6 i).mp (full i hi')
          have := ct_inj (p := fun _ => true) (q := fun k => decide (lo k ≤ c ∧ c ≤ hi k)) (N := L.length) (m := 12) (f := fun i => if hi' : i < 11 then (ex i hi').choose else k) (fun i hi' _ => by
            by_cases v : i < 11
            · rw [dif_pos v]
              have s := (ex i v).choose_spec
              exact ⟨s.1, decide_eq_true ⟨by rcases s.2.1 with s' | s' <;> omega, s.2.2.1⟩⟩
            · rw [dif_neg v]
              exact ⟨hk, decide_eq_true ⟨by omega, by omega⟩⟩) (fun i j hij hj _ _ => by
            have vi : i < 11 := by omega
            rw [dif_pos vi]
            have si := (ex i vi).choose_spec
            by_cases vj : j < 11
            · rw [dif_pos vj]
              have sj := (ex j vj).choose_spec
              intro q
              have q1 := si.2.2.2
              have q2 := sj.2.2.2
              rw [q] at q1
              omega
            · rw [dif_neg vj]
              intro q
              have s := si.2.1
              rw [q] at s
              rcases s with s | s <;> omega)
          have c12 : fb_ct (fun _ => true) 12 = 12 := by decide
          have := hact c hc
          omega
        generalize qZb hd2 = t at z1 z2 z3 t11 ⊢
        intro M3 e3
        have x59 : M3.1 59 k = nI t := by rw [e3, jrI_s, pk_us]
        rw [x59, nI_set (by omega)]
        have s3 : jsame (fun q => q = 59 ∨ q = 60) M M3 := by rw [e3]; exact f1.tr (jsame.I (Or.inl rfl))
        have notk : ∀ j, (lo j < c ∨ (lo j = c ∧ j < k)) → j ≠ k := fun j a e => by rw [e] at a; rcases a with a | a <;> omega
        have back : ∀ j, j ≠ k → (lo j < c ∨ (lo j = c ∧ j < k + 1)) → (lo j < c ∨ (lo j = c ∧ j < k)) := fun j ne a => by
          rcases a with a | ⟨a, a'⟩
          · exact Or.inl a
          · exact Or.inr ⟨a, by omega⟩
        refine ihk M3 _ ⟨s3, by rw [e3]; exact f2, fun j => if j = k then t else sl2 j, ⟨fun j hj a => ?_, fun i j hi' hj a1 a2 ne o1 o2 => ?_, set_lt f5 t11, fun b => ?_⟩, fun c' hc' => ?_⟩
        · show M3.1 59 j = nI (if j = k then t else sl2 j) ∧ (if j = k then t else sl2 j) < 11
          by_cases e : j = k
          · rw [e, if_pos rfl]; exact ⟨x59, t11⟩
          · rw [if_neg e, e3, jrI_s, pk_un e]; exact f3 j hj (back j e a)
        · show (if i = k then t else sl2 i) ≠ (if j = k then t else sl2 j)
          by_cases ei : i = k
          · have ej : j ≠ k := fun v => ne (ei.trans v.symm)
            rw [if_pos ei, if_neg ej]
            intro q
            have aj := back j ej a2
            have := (f6 t).mpr ⟨j, hj, aj, by rw [ei] at o1; omega, q.symm⟩
            rw [z2] at this
            cases this
          · by_cases ej : j = k
            · rw [if_neg ei, if_pos ej]
              intro q
              have ai := back i ei a1
              have := (f6 t).mpr ⟨i, hi', ai, by rw [ej] at o2; omega, q⟩
              rw [z2] at this
              cases this
            · rw [if_neg ei, if_neg ej]
              exact f4 i j hi' hj (back i ei a1) (back j ej a2) ne o1 o2
        · rw [fb_bit_set, Bool.or_eq_true, decide_eq_true_iff, f6 b]
          constructor
          · rintro (⟨j, j1, j2, j3, j4⟩ | q)
            · refine ⟨j, j1, (by rcases j2 with a | ⟨a, a'⟩; exact Or.inl a; exact Or.inr ⟨a, by omega⟩), j3, ?_⟩
              show (if j = k then t else sl2 j) = b
              rw [if_neg (notk j j2)]; exact j4
            · exact ⟨k, hk, Or.inr ⟨u, by omega⟩, by omega, by show (if k = k then t else sl2 k) = b; rw [if_pos rfl, q]⟩
          · rintro ⟨j, j1, j2, j3, j4⟩
            have j4' : (if j = k then t else sl2 j) = b := j4
            by_cases e : j = k
            · rw [if_pos e] at j4'; exact Or.inr j4'.symm
            · rw [if_neg e] at j4'; exact Or.inl ⟨j, j1, back j e j2, j3, j4'⟩
        · obtain ⟨e', q1, q2, q3⟩ := f7 c' hc'
          refine ⟨e', q1, by rw [e3, jrI_n (by omega)]; exact q2, fun j hj v1 v2 => ?_⟩
          show (if j = k then t else sl2 j) < e'
          rw [if_neg (fun q => by rw [q] at v1; omega)]
          exact q3 j hj v1 v2
    · obtain ⟨a1, a2, a3, a4⟩ := g3
      refine ⟨fun j hj a => a1 j hj (by rcases a with a | a; exact a; omega), fun i j hi' hj b1 b2 => a2 i j hi' hj (by rcases b1 with a | a; exact a; omega) (by rcases b2 with a | a; exact a; omega), a3, fun b => (a4 b).trans ⟨fun ⟨j, j1, j2, j3⟩ => ⟨j, j1, Or.inl j2, j3⟩, fun ⟨j, j1, j2, j3⟩ => ⟨j, j1, (by rcases j2 with a | a; exact a; omega), j3⟩⟩⟩
end SLT
