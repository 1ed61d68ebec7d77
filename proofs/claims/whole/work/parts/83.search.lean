/-! the search for the least weight -/
theorem clr_bit {n c : Nat} (hn : n < 2 ^ 31) (i : Nat) : (n &&& (2 ^ c ^^^ (2 ^ 32 - 1))).testBit i = (n.testBit i && !decide (i = c)) := by
  rw [Nat.testBit_and, Nat.testBit_xor, Nat.testBit_two_pow, Nat.testBit_two_pow_sub_one]
  cases e : n.testBit i
  · rfl
  · have := bit_lt hn e
    rw [decide_eq_true (show i < 32 by omega)]
    by_cases q : c = i
    · rw [decide_eq_true q, decide_eq_true q.symm]; rfl
    · rw [decide_eq_false q, decide_eq_false (fun h => q h.symm)]; rfl
theorem not_bit {n lo : Nat} (hn : n < 2 ^ 31) (i : Nat) : (n &&& (lo ^^^ (2 ^ 32 - 1))).testBit i = (n.testBit i && !lo.testBit i) := by
  rw [Nat.testBit_and, Nat.testBit_xor, Nat.testBit_two_pow_sub_one]
  cases e : n.testBit i
  · rfl
  · have := bit_lt hn e
    rw [decide_eq_true (show i < 32 by omega)]
    cases lo.testBit i <;> rfl
theorem nI_clr {n c : Nat} (hc : c < 31) : nI n &&& (((1 : Int32) <<< (nI c &&& 31)) ^^^ (-1)) = nI (n &&& (2 ^ c ^^^ (2 ^ 32 - 1))) := by
  rw [nI_shl1 c hc, m1_xor, fb_xorI, fa_and]
theorem nI_not {n lo : Nat} : nI n &&& (nI lo ^^^ (-1)) = nI (n &&& (lo ^^^ (2 ^ 32 - 1))) := by
  rw [m1_xor, fb_xorI, fa_and]
theorem nI_set {n c : Nat} (hc : c < 31) : nI n ||| ((1 : Int32) <<< (nI c &&& 31)) = nI (n ||| 2 ^ c) := by
  rw [nI_shl1 c hc, fa_or]
theorem ct_clr {n m t k : Nat} (h : ∀ i, m.testBit i = (n.testBit i && !decide (i = t))) (ht : t < k) (hb : n.testBit t = true) : fb_ct m.testBit k + 1 = fb_ct n.testBit k := by
  have e : m.testBit = fun i => if i = t then false else n.testBit i := funext fun i => by
    rw [h i]
    by_cases q : i = t
    · rw [if_pos q, decide_eq_true q]; simp
    · rw [if_neg q, decide_eq_false q]; simp
  have := fb_ct_upd n.testBit false ht
  rw [hb] at this
  rw [e]
  exact this
theorem ct_set {n t k : Nat} (ht : t < k) (hb : n.testBit t = false) : fb_ct (n ||| 2 ^ t).testBit k = fb_ct n.testBit k + 1 := by
  have e : (n ||| 2 ^ t).testBit = fun i => if i = t then true else n.testBit i := funext fun i => by
    rw [fb_bit_set]
    by_cases q : i = t
    · rw [if_pos q, decide_eq_true q]; simp
    · rw [if_neg q, decide_eq_false q]; simp
  have := fb_ct_upd n.testBit true ht
  rw [hb] at this
  rw [e]
  exact this
theorem set_lt {n t k : Nat} (hn : n < 2 ^ k) (ht : t < k) : n ||| 2 ^ t < 2 ^ k := Nat.or_lt_two_pow hn (Nat.pow_lt_pow_right (by decide) ht)
section SRC
variable {x : jX} {d : Nat} {M : jM}
theorem k_maxL {tb : jT} {P : jM → Int64 → Prop} {a b : Nat} (ha : a < 2 ^ 62) (hb : b < 2 ^ 62) (h : P M (lN (max a b))) : JC x tb mJ9_max_f86c9 d [.long (lN a), .long (lN b)] M (jL P) := by
  refine b_J9_max_f86c9 ?_
  rw [pk_lLT (Nat.lt_trans ha (by decide)) (Nat.lt_trans hb (by decide))]
  refine ⟨fun c => ?_, fun c => ?_⟩
  · rw [Nat.max_eq_right (by omega)] at h; exact h
  · rw [Nat.max_eq_left (by omega)] at h; exact h
theorem k_lightest {P : jM → Int32 → Prop} {C n : Nat} {wt : Nat → Nat} (hC : C ≤ 25) (hn : n < 2 ^ C) (h0 : ¬ n = 0) (hw : ∀ c, c < C → M.2 54 c = lN (wt c)) (hb : ∀ c, c < C → wt c ≤ 2 ^ 40) (h : ∀ c, c < C → n.testBit c = true → (∀ k, n.testBit k = true → wt c ≤ wt k) → P M (nI c)) : JC x jtbC mX1_lightest (d + 1) [.ref (x.2.2.2 54), .int (nI n)] M (jI P) := by
  have c25 : ∀ m, m < 2 ^ C → m < 2 ^ 31 := fun m hm => Nat.lt_of_lt_of_le hm (Nat.pow_le_pow_right (by decide) (by omega))
  refine b_X1_lightest ?_
  have fin : ∀ c, c < C → n.testBit c = true → (∀ k, n.testBit k = true → wt c ≤ wt k) → JC x jtbC mJ9_max_7cf53 d [.int (nI c), .int (0 : Int32)] M (jI P) := fun c hc h1 h2 => by
    refine k_max ?_
    rw [if_neg (show ¬ nI c < (0 : Int32) from nI_pos (by omega))]
    exact h c hc h1 h2
  refine jloop2 (fun i (r : Nat) (fd : Int32) => JW x jtbC mX1_lightest (d + 1) (jI P) 7 [(0, .ref (x.2.2.2 54)), (2, .int (nI r)), (3, .int fd), (4, .int (nI i))] [] M)
    (fun i r fd => r < 2 ^ C ∧ (∀ k, r.testBit k = true → n.testBit k = true) ∧ i + fb_ct r.testBit 25 ≤ 25 ∧ ((fd = -1 ∧ r = n) ∨ ∃ c, c < C ∧ fd = nI c ∧ n.testBit c = true ∧ ∀ k, n.testBit k = true → r.testBit k = false → wt c ≤ wt k)) 25 ?_ ?_ 0 n (-1) (Nat.zero_le _) ⟨hn, fun _ h => h, by have := fb_ct_le n.testBit 25; omega, Or.inl ⟨rfl, rfl⟩⟩
  · rintro r fd ⟨g1, g2, g3, g4⟩
    have r0 : r = 0 := Nat.eq_of_testBit_eq (fun c => by
      rw [Nat.zero_testBit]
      cases e : r.testBit c
      · rfl
      · have := bit_lt g1 e
        have := (fb_ct_zero.mp (show fb_ct r.testBit 25 = 0 by omega)) c (by omega)
        rw [e] at this
        cases this)
    refine b_X1_lightest_7 sC_54 (by decide) (pk_le 25 25 (fun _ => ?_) (fun c => absurd c (by omega)))
    rcases g4 with ⟨_, e⟩ | ⟨c, c1, rfl, c2, c3⟩
    · exact absurd (e.symm.trans r0) h0
    · exact fin c c1 c2 (fun k hk => c3 k hk (by rw [r0]; exact Nat.zero_testBit k))
  · rintro i r fd hi ⟨g1, g2, g3, g4⟩ ih
    refine b_X1_lightest_7 sC_54 (by decide) (pk_le 25 i (fun c => absurd c (by omega)) (fun _ => ⟨fun e => ?_, fun e => ?_⟩))
    · have r0 : r = 0 := (nI_eq (c25 _ g1) (by decide)).mp e
      rcases g4 with ⟨_, e⟩ | ⟨c, c1, rfl, c2, c3⟩
      · exact absurd (e.symm.trans r0) h0
      · exact fin c c1 c2 (fun k hk => c3 k hk (by rw [r0]; exact Nat.zero_testBit k))
    · have r0 : ¬ r = 0 := fun q => e (by rw [q]; rfl)
      obtain ⟨t, ht⟩ := qLb_ex r0
      have tC := bit_lt g1 ht.1
      have r1 : 1 ≤ r := Nat.pos_of_ne_zero r0
      have cl := qLb_clear ht
      have e2 : nI r &&& (nI r - (1 : Int32)) = nI (r &&& (r - 1)) := by
        rw [show nI r - (1 : Int32) = nI (r - 1) from pk_sub r1, fa_and]
      have g1' : r &&& (r - 1) < 2 ^ C := Nat.lt_of_le_of_lt Nat.and_le_left g1
      have ct := ct_clr (k := 25) cl (by omega) ht.1
      have go : ∀ c, c < C → n.testBit c = true → (∀ k, n.testBit k = true → (r &&& (r - 1)).testBit k = false → wt c ≤ wt k) → JW x jtbC mX1_lightest (d + 1) (jI P) 7 [(0, .ref (x.2.2.2 54)), (2, .int (nI r &&& (nI r - (1 : Int32)))), (3, .int (nI c)), (4, .int (nI i + 1))] [] M := fun c c1 c2 c3 => by
        rw [e2, nI_1]
        exact ih _ _ ⟨g1', fun k hk => by rw [cl, Bool.and_eq_true] at hk; exact g2 k hk.1, by omega, Or.inr ⟨c, c1, rfl, c2, c3⟩⟩
      refine k_ntz ht (c25 _ g1) ?_
      rcases g4 with ⟨rfl, rfl⟩ | ⟨c, c1, rfl, c2, c3⟩
      · refine ⟨fun _ => b_X1_lightest_40 (go t tC ht.1 (fun k h1 h2 => ?_)), fun q => absurd rfl q⟩
        rw [cl, h1, Bool.true_and] at h2
        have : k = t := of_decide_eq_true (by revert h2; cases decide (k = t) <;> simp)
        rw [this]; exact Nat.le_refl _
      · refine ⟨fun q => ?_, fun _ => ⟨t, by omega, rfl, c, by omega, rfl, ?_⟩⟩
        · have := congrArg Int32.toInt q
          rw [nI_toInt (by omega)] at this
          have h3 : (-1 : Int32).toInt = -1 := by decide
          omega
        · rw [hw c c1, hw t tC, pk_lLE (Nat.lt_of_le_of_lt (hb c c1) (by decide)) (Nat.lt_of_le_of_lt (hb t tC) (by decide))]
          have keq : ∀ k, n.testBit k = true → (r &&& (r - 1)).testBit k = false → r.testBit k = false ∨ k = t := fun k h1 h2 => by
            rw [cl] at h2
            cases u : r.testBit k
            · exact Or.inl rfl
            · rw [u, Bool.true_and] at h2
              exact Or.inr (of_decide_eq_true (by revert h2; cases decide (k = t) <;> simp))
          refine ⟨fun q => go c c1 c2 (fun k h1 h2 => ?_), fun q => b_X1_lightest_40 (go t tC (g2 t ht.1) (fun k h1 h2 => ?_))⟩
          · rcases keq k h1 h2 with u | u
            · exact c3 k h1 u
            · rw [u]; exact q
          · rcases keq k h1 h2 with u | u
            · have := c3 k h1 u; omega
            · rw [u]; exact Nat.le_refl _
/-- the lightest cell of a need that may be raised -/
noncomputable def qLt (C : Nat) (wt : Nat → Nat) (lo f : Nat) : Nat := qMin (fun n => ∃ c, c < C ∧ f.testBit c = true ∧ lo.testBit c = false ∧ wt c = n)
theorem sUn_app {C ra : Nat} {lw : Nat → Nat} {dd : Nat} (l : List (Nat × Nat)) (p : Nat × Nat) : sUn C (l ++ [p]) ra lw dd = sUn C l ra lw dd + (if p.1 &&& ra = 0 ∧ p.2 = dd then lw p.1 else 0) := by
  induction l with
  | nil => rfl
  | cons r t ih =>
    show sUn C (t ++ [p]) ra lw dd + _ = sUn C t ra lw dd + _ + _
    rw [ih]; omega
theorem sUn_bd {C ra : Nat} {lw : Nat → Nat} {dd B : Nat} : ∀ (l : List (Nat × Nat)), (∀ p, p ∈ l → p.1 &&& ra = 0 → lw p.1 ≤ B) → sUn C l ra lw dd ≤ l.length * B
  | [], _ => Nat.zero_le _
  | p :: t, h => by
    have ih := sUn_bd (C := C) (ra := ra) (lw := lw) (dd := dd) (B := B) t (fun q hq => h q (List.mem_cons_of_mem _ hq))
    show sUn C t ra lw dd + _ ≤ (t.length + 1) * B
    rw [Nat.succ_mul]
    have : (if p.1 &&& ra = 0 ∧ p.2 = dd then lw p.1 else 0) ≤ B := by
      split
      · rename_i q; exact h p List.mem_cons_self q.1
      · exact Nat.zero_le _
    omega
/-- what floorOf tells -/
def sFl (C : Nat) (L : List (Nat × Nat)) (wt : Nat → Nat) (ra lo r na : Nat) : Prop :=
  (r = 2 ^ 60 ∧ ∃ p, p ∈ L ∧ p.1 &&& ra = 0 ∧ ∀ c, p.1.testBit c = true → lo.testBit c = true) ∨
  (r ≤ 54 * 2 ^ 40 ∧ (∃ dd, r = sUn C L ra (qLt C wt lo) dd) ∧ na < 2 ^ C ∧ ((na = 0 ∧ ∀ p, p ∈ L → ¬ p.1 &&& ra = 0) ∨ (∃ p, p ∈ L ∧ p.1 &&& ra = 0 ∧ ¬ na = 0 ∧ ∀ c, na.testBit c = (p.1.testBit c && !lo.testBit c))))
theorem k_floorOf {P : jM → Int64 → Prop} {C : Nat} {L : List (Nat × Nat)} {wt : Nat → Nat} {ra lo : Nat} (hL : sL C L wt) (hr : rq M L) (hw : ∀ c, c < C → M.2 54 c = lN (wt c)) (h : ∀ M' r na, jsame (fun q => q = 55 ∨ q = 58) M M' → (∀ k, k ≠ 5 → M'.1 55 k = M.1 55 k) → M'.2 55 = M.2 55 → M'.1 55 5 = nI na → sFl C L wt ra lo r na → P M' (lN r)) : JC x jtbC mX1_floorOf (d + 2) [.ref (x.2.2.2 55), .ref (x.2.2.2 54), .int (nI ra), .int (nI lo)] M (jL P) := by
  obtain ⟨l1, l2, l3, l4, l5⟩ := hL
  obtain ⟨r1, r2, r3⟩ := hr
  have c25 : ∀ m, m < 2 ^ C → m < 2 ^ 31 := fun m hm => Nat.lt_of_lt_of_le hm (Nat.pow_le_pow_right (by decide) (by omega))
  refine b_X1_floorOf (d := d + 1) (k_fillL sC_58 (by decide) (fun M1 a1 a2 a3 => ?_))
  intro M2 e2
  refine jloop2 (fun i (M3 : jM) (na : Nat) => JW x jtbC mX1_floorOf (d + 2) (jL P) 16 [(0, .ref (x.2.2.2 55)), (1, .ref (x.2.2.2 54)), (2, .int (nI ra)), (3, .int (nI lo)), (4, .int (nI i))] [] M3)
    (fun i M3 na => jsame (fun q => q = 55 ∨ q = 58) M M3 ∧ (∀ k, k ≠ 5 → M3.1 55 k = M.1 55 k) ∧ M3.2 55 = M.2 55 ∧ M3.1 55 5 = nI na ∧ na < 2 ^ C ∧ (∀ dd, dd < 4 → M3.2 58 dd = lN (sUn C (L.take i) ra (qLt C wt lo) dd)) ∧ (∀ p, p ∈ L.take i → p.1 &&& ra = 0 → qLt C wt lo p.1 ≤ 2 ^ 40) ∧ ((na = 0 ∧ ∀ p, p ∈ L.take i → ¬ p.1 &&& ra = 0) ∨ (∃ p, p ∈ L ∧ p.1 &&& ra = 0 ∧ ¬ na = 0 ∧ ∀ c, na.testBit c = (p.1.testBit c && !lo.testBit c)))) L.length ?_ ?_ 0 M2 0 (Nat.zero_le _) ?_
  · rintro M3 na ⟨g1, g2, g3, g4, g5, g6, g7, g8⟩
    rw [List.take_length] at g6 g7 g8
    have sb : ∀ dd, sUn C L ra (qLt C wt lo) dd ≤ 54 * 2 ^ 40 := fun dd => Nat.le_trans (sUn_bd L g7) (Nat.mul_le_mul_right _ l3)
    have sb' : ∀ dd, sUn C L ra (qLt C wt lo) dd < 2 ^ 62 := fun dd => Nat.lt_of_le_of_lt (sb dd) (by decide)
    refine b_X1_floorOf_16 ?_
    rw [g2 3 (by omega), r1]
    refine pk_le L.length L.length (fun _ => ?_) (fun c => absurd c (by omega))
    rw [g6 0 (by omega), g6 1 (by omega)]
    refine k_maxL (sb' 0) (sb' 1) ?_
    rw [g6 2 (by omega), g6 3 (by omega)]
    refine k_maxL (sb' 2) (sb' 3) ?_
    refine k_maxL (Nat.max_lt.mpr ⟨sb' 0, sb' 1⟩) (Nat.max_lt.mpr ⟨sb' 2, sb' 3⟩) ?_
    have mx : ∃ dd, max (max (sUn C L ra (qLt C wt lo) 0) (sUn C L ra (qLt C wt lo) 1)) (max (sUn C L ra (qLt C wt lo) 2) (sUn C L ra (qLt C wt lo) 3)) = sUn C L ra (qLt C wt lo) dd := by
      rcases Nat.le_total (max (sUn C L ra (qLt C wt lo) 0) (sUn C L ra (qLt C wt lo) 1)) (max (sUn C L ra (qLt C wt lo) 2) (sUn C L ra (qLt C wt lo) 3)) with u | u
      · rw [Nat.max_eq_right u]
        rcases Nat.le_total (sUn C L ra (qLt C wt lo) 2) (sUn C L ra (qLt C wt lo) 3) with v | v
        · exact ⟨3, Nat.max_eq_right v⟩
        · exact ⟨2, Nat.max_eq_left v⟩
      · rw [Nat.max_eq_left u]
        rcases Nat.le_total (sUn C L ra (qLt C wt lo) 0) (sUn C L ra (qLt C wt lo) 1) with v | v
        · exact ⟨1, Nat.max_eq_right v⟩
        · exact ⟨0, Nat.max_eq_left v⟩
    obtain ⟨dd, hdd⟩ := mx
    rw [hdd]
    exact h M3 _ na g1 g2 g3 g4 (Or.inr ⟨sb dd, ⟨dd, rfl⟩, g5, g8⟩)
  · rintro i M3 na hi ⟨g1, g2, g3, g4, g5, g6, g7, g8⟩ ih
    obtain ⟨p, hp, hpm⟩ := at_some hi
    obtain ⟨p1, p2⟩ := l2 p hpm
    obtain ⟨y6, y7⟩ := r3 i p hp
    have z6 : M3.1 56 i = nI p.1 := by rw [(g1 56 (by omega)).1]; exact y6
    have z7 : M3.1 57 i = nI p.2 := by rw [(g1 57 (by omega)).1]; exact y7
    have tk : L.take (i + 1) = L.take i ++ [p] := by rw [List.take_succ, hp]; rfl
    refine b_X1_floorOf_16 ?_
    rw [g2 3 (by omega), r1]
    refine pk_le L.length i (fun c => absurd c (by omega)) (fun _ => ⟨i, by omega, rfl, ?_⟩)
    rw [z6, show (0 : Int32) = nI 0 from rfl, nI_and_eq (c25 _ p1) (by decide), nI_1]
    refine ⟨fun c => ?_, fun hra0 => ?_⟩
    · refine ih M3 na ⟨g1, g2, g3, g4, g5, fun dd hdd => ?_, fun q hq => ?_, ?_⟩
      · rw [tk, sUn_app, if_neg (fun q => c q.1), Nat.add_zero]; exact g6 dd hdd
      · rw [tk, List.mem_append, List.mem_singleton] at hq
        rcases hq with hq | hq
        · exact g7 q hq
        · rw [hq]; exact fun e => absurd e c
      · rcases g8 with ⟨u, v⟩ | u
        · refine Or.inl ⟨u, fun q hq => ?_⟩
          rw [tk, List.mem_append, List.mem_singleton] at hq
          rcases hq with hq | hq
          · exact v q hq
          · rw [hq]; exact c
        · exact Or.inr u
    · rw [nI_not]
      have nb := not_bit (lo := lo) (c25 _ p1)
      have lf : p.1 &&& (lo ^^^ (2 ^ 32 - 1)) < 2 ^ C := Nat.lt_of_le_of_lt Nat.and_le_left p1
      generalize p.1 &&& (lo ^^^ (2 ^ 32 - 1)) = left at *
      rw [nI_eq (c25 _ lf) (by decide)]
      have at87 : ∀ M4 : jM, jsame (fun q => q = 55) M3 M4 → (∀ k, k ≠ 5 → M4.1 55 k = M3.1 55 k) → M4.2 = M3.2 → ∀ na', M4.1 55 5 = nI na' → na' < 2 ^ C → ¬ left = 0 → (∃ p, p ∈ L ∧ p.1 &&& ra = 0 ∧ ¬ na' = 0 ∧ ∀ c, na'.testBit c = (p.1.testBit c && !lo.testBit c)) → JW x jtbC mX1_floorOf (d + 2) (jL P) 87 [(0, .ref (x.2.2.2 55)), (1, .ref (x.2.2.2 54)), (2, .int (nI ra)), (3, .int (nI lo)), (4, .int (nI i)), (5, .int (nI left))] [] M4 := fun M4 f1 f2 f3 na' f4 f5 l0 f6 => by
        refine b_X1_floorOf_87 sC_54 (by decide) ⟨i, by omega, rfl, p.2, p2, by rw [(f1 57 (by omega)).1]; exact z7, ?_⟩
        refine k_lightest (wt := wt) l1 lf l0 (fun c hc => by rw [f3, (g1 54 (by omega)).2]; exact hw c hc) l5 (fun c hc c1 c2 => ⟨c, by omega, rfl, ?_⟩)
        intro M5 e5
        have ec : qLt C wt lo p.1 = wt c := qMin_eq ⟨c, hc, by rw [nb, Bool.and_eq_true] at c1; exact c1.1, by rw [nb, Bool.and_eq_true] at c1; have := c1.2; revert this; cases lo.testBit c <;> simp, rfl⟩ (fun m ⟨k, k1, k2, k3, k4⟩ => by rw [← k4]; exact c2 k (by rw [nb, k2, k3]; rfl))
        have ec40 := l5 c hc
        rw [nI_1]
        refine ih M5 na' ⟨fun q hq => ?_, fun k hk => ?_, ?_, ?_, f5, fun dd hdd => ?_, fun q hq => ?_, Or.inr f6⟩
        · have q5 : q ≠ 55 := fun e => hq (Or.inl e)
          have q8 : q ≠ 58 := fun e => hq (Or.inr e)
          exact ⟨by rw [e5]; exact (f1 q q5).1.trans (g1 q hq).1, by rw [e5, jrL_n q8, f3]; exact (g1 q hq).2⟩
        · rw [e5]; exact (f2 k hk).trans (g2 k hk)
        · rw [e5, jrL_n (by omega), f3]; exact g3
        · rw [e5]; exact f4
        · rw [e5, jrL_s, tk, sUn_app, f3, (g1 54 (by omega)).2, hw c hc]
          by_cases q : p.2 = dd
          · rw [if_pos ⟨hra0, q⟩, ← q, pk_uLs, g6 p.2 p2, lN_add, ec]
          · rw [if_neg (fun u => q u.2), pk_uLn (fun u => q u.symm), Nat.add_zero]; exact g6 dd hdd
        · rw [tk, List.mem_append, List.mem_singleton] at hq
          rcases hq with hq | hq
          · exact g7 q hq
          · rw [hq, ec]; exact fun _ => ec40
      refine ⟨fun l0 => ?_, fun l0 => ?_⟩
      · have own : ∃ p, p ∈ L ∧ p.1 &&& ra = 0 ∧ ¬ left = 0 ∧ ∀ c, left.testBit c = (p.1.testBit c && !lo.testBit c) := ⟨p, hpm, hra0, l0, nb⟩
        have set : ∀ M4 : jM, M4 = jrI M3 55 (upd (M3.1 55) 5 (nI left)) → JW x jtbC mX1_floorOf (d + 2) (jL P) 87 [(0, .ref (x.2.2.2 55)), (1, .ref (x.2.2.2 54)), (2, .int (nI ra)), (3, .int (nI lo)), (4, .int (nI i)), (5, .int (nI left))] [] M4 := fun M4 e4 =>
          at87 M4 (by rw [e4]; exact jsame.I rfl) (fun k hk => by rw [e4, jrI_s, pk_un hk]) (by rw [e4]; rfl) left (by rw [e4, jrI_s, pk_us]) lf l0 own
        rw [g4, nI_eq (c25 _ g5) (by decide)]
        refine ⟨fun _ => set, fun n0 => ?_⟩
        refine k_bitCount (Nat.lt_trans (c25 _ lf) (by decide)) ?_
        rw [g4]
        refine k_bitCount (Nat.lt_trans (c25 _ g5) (by decide)) ?_
        refine ⟨fun _ => at87 M3 jsame.rf (fun _ _ => rfl) rfl na g4 g5 l0 ?_, fun _ => set⟩
        rcases g8 with ⟨u, _⟩ | u
        · exact absurd u n0
        · exact u
      · refine h M3 (2 ^ 60) na g1 g2 g3 g4 (Or.inl ⟨rfl, p, hpm, hra0, fun k hk => ?_⟩)
        have := nb k
        rw [l0, Nat.zero_testBit, hk, Bool.true_and] at this
        revert this
        cases lo.testBit k <;> simp
  · refine ⟨fun q hq => ?_, fun k hk => ?_, ?_, ?_, Nat.two_pow_pos C, fun dd hdd => ?_, fun p hp => (by simp at hp), Or.inl ⟨rfl, fun p hp => (by simp at hp)⟩⟩
    · have q5 : q ≠ 55 := fun e => hq (Or.inl e)
      have q8 : q ≠ 58 := fun e => hq (Or.inr e)
      exact ⟨by rw [e2, jrI_n q5, a2], by rw [e2]; exact (a1 q q8).2⟩
    · rw [e2, jrI_s, pk_un hk, a2]
    · rw [e2]; exact (a1 55 (by omega)).2
    · rw [e2, jrI_s, pk_us]; rfl
    · rw [e2]; exact a3 dd hdd
end SRC
