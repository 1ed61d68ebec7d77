/-! the class counts ways, modulo 1000007 -/
def cg (a b : Nat) : Prop := a % 1000007 = b % 1000007
theorem cg.rf {a : Nat} : cg a a := rfl
theorem cg.eq {a b : Nat} (h : a = b) : cg a b := h ▸ rfl
theorem cg.sm {a b : Nat} (h : cg a b) : cg b a := Eq.symm h
theorem cg.tr {a b c : Nat} (h : cg a b) (h2 : cg b c) : cg a c := Eq.trans h h2
theorem cg.add {a b c e : Nat} (h : cg a b) (h2 : cg c e) : cg (a + c) (b + e) := by
  unfold cg at *
  rw [Nat.add_mod, h, h2, ← Nat.add_mod]
theorem cg.mul {a b c e : Nat} (h : cg a b) (h2 : cg c e) : cg (a * c) (b * e) := by
  unfold cg at *
  rw [Nat.mul_mod, h, h2, ← Nat.mul_mod]
theorem cg.md (a : Nat) : cg (a % 1000007) a := Nat.mod_mod _ _
section CNT
variable {x : jX} {d : Nat} {M : jM}
theorem lmod : (1000007 : Int64) = lN 1000007 := rfl
theorem k_raise {P : jM → Prop} {met bl e fr : Nat} {D : Nat → Nat} {T : Nat → Nat → Nat} {st : Nat → Nat} (he : e ≤ 11) (hm : met < 2 ^ e) (hbl : bl ≤ 100) (hst : ∀ S, S < 2048 → M.2 61 S = lN (st S) ∧ st S < 1000007 ∧ cg (fr * st S) (D S)) (hbig : ∀ S, 2 ^ e ≤ S → S < 2048 → D S = 0 ∧ T (2 ^ e) S = 0) (hlow : ∀ S, S < 2 ^ e → T (2 ^ e) S = 0) (hT : ∀ j S, T j S = T (j + 1) S + (if j ||| met = S then D j else 0)) (hself : ∀ j, T (j + 1) j = 0)
    (h : ∀ (M' : jM) (st' : Nat → Nat), jsame (fun q => q = 61) M M' → M'.1 = M.1 → (∀ S, S < 2048 → M'.2 61 S = lN (st' S) ∧ st' S < 1000007 ∧ cg (fr * st' S) (bl * D S + T 0 S)) → P M') : JC x jtbC mX1_raiseOrNot d [.ref (x.2.2.2 55), .int (nI met), .long (lN bl), .int (nI (2 ^ e))] M (jV P) := by
  have p11 : 2 ^ e ≤ 2048 := Nat.pow_le_pow_right (n := 2) (by decide) he
  refine b_X1_raiseOrNot ?_
  have main : ∀ j (M1 : jM) (s1 : Nat → Nat), j ≤ 2 ^ e → jsame (fun q => q = 61) M M1 → M1.1 = M.1 → (∀ S, S < 2048 → M1.2 61 S = lN (s1 S) ∧ s1 S < 1000007 ∧ (S < j → cg (fr * s1 S) (D S)) ∧ (j ≤ S → cg (fr * s1 S) (bl * D S + T j S))) → JW x jtbC mX1_raiseOrNot d (jV P) 6 [(0, .ref (x.2.2.2 55)), (1, .int (nI met)), (2, .long (lN bl)), (5, .int (nI j - (1 : Int32)))] [] M1 := by
    intro j
    induction j with
    | zero =>
      intro M1 s1 _ a1 a2 a3
      refine b_X1_raiseOrNot_6 ⟨fun _ => h M1 s1 a1 a2 (fun S hS => ⟨(a3 S hS).1, (a3 S hS).2.1, (a3 S hS).2.2.2 (Nat.zero_le _)⟩), fun c => absurd (show nI 0 - (1 : Int32) < 0 by decide) c⟩
    | succ s ih =>
      intro M1 s1 hj a1 a2 a3
      have s48 : s < 2048 := by omega
      rw [show nI (s + 1) - (1 : Int32) = nI s from nI_pred s]
      refine b_X1_raiseOrNot_6 ⟨fun c => absurd c (nI_pos (by omega)), fun _ => ⟨s, s48, rfl, ?_⟩⟩
      obtain ⟨b1, b2, b3, _⟩ := a3 s s48
      have b3' := b3 (by omega)
      have ts : T s s = (if s ||| met = s then D s else 0) := by rw [hT, hself, Nat.zero_add]
      have step : nI s + (-1 : Int32) = nI s - (1 : Int32) := by rw [Int32.sub_eq_add_neg]
      rw [b1, show (0 : Int64) = lN 0 from rfl, pk_lEQ (by omega) (by decide), step]
      refine ⟨fun z => ih M1 s1 (by omega) a1 a2 (fun S hS => ?_), fun z => ?_⟩
      · obtain ⟨c1, c2, c3, c4⟩ := a3 S hS
        refine ⟨c1, c2, fun u => c3 (by omega), fun u => ?_⟩
        have ds : cg (D s) 0 := by
          have := b3'.sm
          rw [z, Nat.mul_zero] at this
          exact this
        by_cases e : S = s
        · subst e
          rw [z, Nat.mul_zero, ts]
          have : cg (bl * D S + (if S ||| met = S then D S else 0)) (bl * 0 + 0) := ((cg.rf (a := bl)).mul ds).add (by split; exact ds; exact cg.rf)
          rw [Nat.mul_zero] at this
          exact this.sm
        · have c4' := c4 (by omega)
          rw [hT s S]
          have : cg (bl * D S + (T (s + 1) S + (if s ||| met = S then D s else 0))) (bl * D S + (T (s + 1) S + 0)) := (cg.rf (a := bl * D S)).add ((cg.rf (a := T (s + 1) S)).add (by split; exact ds; exact cg.rf))
          exact c4'.tr this.sm
      · intro M2 e2
        have om : s ||| met < 2 ^ e := Nat.or_lt_two_pow (by omega) hm
        refine ⟨s ||| met, by omega, by rw [fa_or], ?_⟩
        intro M3 e3
        have wb : s1 s * bl < 2 ^ 63 := Nat.lt_of_le_of_lt (Nat.mul_le_mul (Nat.le_of_lt b2) hbl) (by decide)
        rw [lN_mul, lmod, pk_lRem wb (by decide) (by decide)] at e2
        -- the row after the first write
        have r2 : ∀ S, S < 2048 → M2.2 61 S = lN (if S = s then s1 s * bl % 1000007 else s1 S) := fun S hS => by
          rw [e2, jrL_s]
          by_cases q : S = s
          · rw [q, pk_uLs, if_pos rfl]
          · rw [pk_uLn q, if_neg q]; exact (a3 S hS).1
        have v2 : ∀ S, S < 2048 → (if S = s then s1 s * bl % 1000007 else s1 S) < 1000007 := fun S hS => by
          split
          · exact Nat.mod_lt _ (by decide)
          · exact (a3 S hS).2.1
        have o48 : s ||| met < 2048 := by omega
        have vo := v2 (s ||| met) o48
        rw [r2 _ o48, lN_add, lmod, pk_lRem (by omega) (by decide) (by decide)] at e3
        refine ih M3 (fun S => if S = s ||| met then ((if s ||| met = s then s1 s * bl % 1000007 else s1 (s ||| met)) + s1 s) % 1000007 else (if S = s then s1 s * bl % 1000007 else s1 S)) (by omega) ?_ ?_ (fun S hS => ⟨?_, ?_, fun u => ?_, fun u => ?_⟩)
        · rw [e3, e2]; exact (a1.tr (jsame.L rfl)).tr (jsame.L rfl)
        · rw [e3, e2]; exact a2
        · rw [e3, jrL_s]
          by_cases q : S = s ||| met
          · rw [q, pk_uLs, if_pos rfl]
          · rw [pk_uLn q, if_neg q]; exact r2 S hS
        · split
          · exact Nat.mod_lt _ (by decide)
          · exact v2 S hS
        · have ge : s ≤ s ||| met := Nat.left_le_or
          rw [if_neg (by omega), if_neg (by omega)]
          exact (a3 S hS).2.2.1 (by omega)
        · have ge : s ≤ s ||| met := Nat.left_le_or
          have wbl : cg (fr * (s1 s * bl % 1000007)) (bl * D s) := by
            have h1 : cg (fr * (s1 s * bl % 1000007)) (fr * (s1 s * bl)) := (cg.rf (a := fr)).mul (cg.md _)
            have h2 : fr * (s1 s * bl) = bl * (fr * s1 s) := by rw [← Nat.mul_assoc, Nat.mul_comm]
            rw [h2] at h1
            exact h1.tr ((cg.rf (a := bl)).mul b3')
          by_cases q : S = s ||| met
          · rw [if_pos q]
            have h0 : cg (fr * (((if s ||| met = s then s1 s * bl % 1000007 else s1 (s ||| met)) + s1 s) % 1000007)) (fr * (if s ||| met = s then s1 s * bl % 1000007 else s1 (s ||| met)) + fr * s1 s) := by
              have := (cg.rf (a := fr)).mul (cg.md ((if s ||| met = s then s1 s * bl % 1000007 else s1 (s ||| met)) + s1 s))
              rw [Nat.mul_add] at this
              exact this
            refine h0.tr ?_
            by_cases w : s ||| met = s
            · rw [if_pos w]
              have qs : S = s := q.trans w
              subst qs
              rw [ts, if_pos w]
              exact wbl.add b3'
            · rw [if_neg w, hT s S, if_pos q.symm]
              have c4 := (a3 S hS).2.2.2 (by omega)
              rw [q] at c4 ⊢
              have := c4.add b3'
              rw [Nat.add_assoc] at this
              exact this
          · rw [if_neg q]
            by_cases w : S = s
            · subst w
              rw [if_pos rfl, ts, if_neg (fun v => q v.symm), Nat.add_zero]
              exact wbl
            · rw [if_neg w, hT s S, if_neg (fun v => q v.symm), Nat.add_zero]
              exact (a3 S hS).2.2.2 (by omega)
  refine main (2 ^ e) M st (Nat.le_refl _) jsame.rf rfl (fun S hS => ?_)
  obtain ⟨c1, c2, c3⟩ := hst S hS
  refine ⟨c1, c2, fun _ => c3, fun u => ?_⟩
  obtain ⟨z1, z2⟩ := hbig S u hS
  rw [z1] at c3
  rw [z1, z2, Nat.mul_zero]
  exact c3
theorem k_close {P : jM → Prop} {cl e : Nat} {st : Nat → Nat} (he : e ≤ 11) (hc : cl < 2 ^ e) (hst : ∀ S, S < 2048 → M.2 61 S = lN (st S)) (h : ∀ M', jsame (fun q => q = 61) M M' → M'.1 = M.1 → (∀ S, S < 2048 → M'.2 61 S = lN (if S < 2 ^ e then (if S &&& cl = 0 then st (S ||| cl) else 0) else st S)) → P M') : JC x jtbC mX1_closeSlots d [.ref (x.2.2.2 55), .int (nI cl), .int (nI (2 ^ e))] M (jV P) := by
  have p11 : 2 ^ e ≤ 2048 := Nat.pow_le_pow_right (n := 2) (by decide) he
  refine b_X1_closeSlots ?_
  rw [nI_eq0 (by omega)]
  refine ⟨fun c0 => ?_, fun c0 => h M jsame.rf rfl (fun S hS => ?_)⟩
  · refine jloop (fun j (M1 : jM) => JW x jtbC mX1_closeSlots d (jV P) 7 [(0, .ref (x.2.2.2 55)), (1, .int (nI cl)), (2, .int (nI (2 ^ e))), (3, .int (nI j))] [] M1) (fun j M1 => jsame (fun q => q = 61) M M1 ∧ M1.1 = M.1 ∧ ∀ S, S < 2048 → M1.2 61 S = lN (if S < j then (if S &&& cl = 0 then st (S ||| cl) else 0) else st S)) (2 ^ e) ?_ ?_ 0 M (Nat.zero_le _) ⟨jsame.rf, rfl, fun S hS => by rw [if_neg (Nat.not_lt_zero _)]; exact hst S hS⟩
    · rintro M1 ⟨a1, a2, a3⟩
      exact b_X1_closeSlots_7 (pk_le (2 ^ e) (2 ^ e) (fun _ => h M1 a1 a2 a3) (fun c => absurd c (by omega)))
    · rintro j M1 hj ⟨a1, a2, a3⟩ ih
      refine b_X1_closeSlots_7 (pk_le (2 ^ e) j (fun c => absurd c (by omega)) (fun _ => ?_))
      rw [fa_and, fa_or, nI_eq0 (Nat.lt_of_le_of_lt Nat.and_le_left (by omega)), nI_1]
      have om : j ||| cl < 2 ^ e := Nat.or_lt_two_pow hj hc
      have ge : j ≤ j ||| cl := Nat.left_le_or
      have nxt : ∀ (M2 : jM) (v : Nat), v = (if j &&& cl = 0 then st (j ||| cl) else 0) → M2 = jrL M1 61 (vp_updL (M1.2 61) j (lN v)) → JW x jtbC mX1_closeSlots d (jV P) 7 [(0, .ref (x.2.2.2 55)), (1, .int (nI cl)), (2, .int (nI (2 ^ e))), (3, .int (nI (j + 1)))] [] M2 := fun M2 v hv e2 => by
        refine ih M2 ⟨by rw [e2]; exact a1.tr (jsame.L rfl), by rw [e2]; exact a2, fun S hS => ?_⟩
        rw [e2, jrL_s]
        by_cases q : S = j
        · rw [q, pk_uLs, if_pos (Nat.lt_succ_self j), hv]
        · rw [pk_uLn q, a3 S hS]
          by_cases w : S < j
          · rw [if_pos w, if_pos (show S < j + 1 by omega)]
          · rw [if_neg w, if_neg (show ¬ S < j + 1 by omega)]
      refine ⟨fun u => ⟨j, by omega, rfl, fun M2 e2 => nxt M2 0 (by rw [if_neg u]) e2⟩, fun u => ⟨j ||| cl, by omega, rfl, j, by omega, rfl, fun M2 e2 => ?_⟩⟩
      rw [a3 _ (by omega), if_neg (by omega)] at e2
      exact nxt M2 _ (by rw [if_pos u]) e2
  · rw [c0, Nat.and_zero, Nat.or_zero, if_pos rfl]
    split <;> exact hst S hS
theorem k_countWays {P : jM → Int64 → Prop} {C fo : Nat} {L : List (Nat × Nat)} {lo hi b : Nat → Nat} (hC : C ≤ 25) (hr : rq M L) (hfo : M.1 55 0 = nI fo) (hf : fo < 2 ^ C) (hh : ∀ k, k < L.length → qLb (lnd L k) (lo k) ∧ qHi (lnd L k) (hi k) ∧ lnd L k < 2 ^ C ∧ lnd L k &&& fo = 0) (hw : ∀ c, c < C → M.2 54 c = lN (b c)) (hb : ∀ c, c < C → b c ≤ 99) (hact : ∀ c, c < C → fb_ct (fun k => decide (lo k ≤ c ∧ c ≤ hi k)) L.length ≤ 11) (h : ∀ M', jsame (fun q => q = 59 ∨ q = 60 ∨ q = 61) M M' → P M' (lN (tS b C (tVl L.length (lnd L) hi fo C) % 1000007))) : JC x jtbC mX1_countWays (d + 3) [.ref (x.2.2.2 55), .int (nI C), .ref (x.2.2.2 54)] M (jL P) := by
  have f31 : fo < 2 ^ 31 := Nat.lt_of_lt_of_le hf (Nat.pow_le_pow_right (by decide) (by omega))
  have n25 : ∀ k, k < L.length → lnd L k < 2 ^ 25 := fun k hk => Nat.lt_of_lt_of_le (hh k hk).2.2.1 (Nat.pow_le_pow_right (by decide) hC)
  have hiC : ∀ k, k < L.length → hi k < C := fun k hk => qHi_lt (hh k hk).2.1 (hh k hk).2.2.1
  obtain ⟨r1, r2, r3⟩ := id hr
  have hL : ∀ p, p ∈ L → p.1 < 2 ^ 25 := fun p hp => by
    obtain ⟨k, hk⟩ := List.getElem?_of_mem hp
    have kl : k < L.length := (List.getElem?_eq_some_iff.mp hk).1
    obtain ⟨q, q1, q2, q3⟩ := lnd_at kl
    rw [hk] at q2
    cases q2
    rw [← q3]; exact n25 k kl
  refine b_X1_countWays (d := d + 2) (k_holdSlots hC hr (fun k hk => ⟨(hh k hk).1, (hh k hk).2.1, hiC k hk, n25 k hk⟩) hact (fun M1 sl a1 a2 a3 a4 a5 => ⟨fun _ => ?_, fun u => (by cases u)⟩))
  have H : wH C L.length (lnd L) lo hi sl fo := ⟨hh, a4⟩
  refine k_fillL sC_61 (by decide) (fun M2 b1 b2 b3 => ?_)
  intro M3 e3
  have s3 : jsame (fun q => q = 59 ∨ q = 60 ∨ q = 61) M M3 := fun q hq => by
    have u1 := a1 q (by omega)
    have u2 := b1 q (by omega)
    exact ⟨by rw [e3]; exact u2.1.trans u1.1, by rw [e3, jrL_n (by omega)]; exact u2.2.trans u1.2⟩
  have r59 : M3.1 59 = M1.1 59 := by rw [e3]; exact congrFun b2 59
  have r60 : M3.1 60 = M1.1 60 := by rw [e3]; exact congrFun b2 60
  refine jloop2 (fun c (M4 : jM) (fr : Nat) => JW x jtbC mX1_countWays (d + 3) (jL P) 30 [(0, .ref (x.2.2.2 55)), (1, .int (nI C)), (2, .ref (x.2.2.2 54)), (3, .long (lN fr)), (5, .int (nI c))] [] M4) (fun c M4 fr => jsame (fun q => q = 61) M3 M4 ∧ M4.1 = M3.1 ∧ fr < 1000007 ∧ ∃ st, ∀ S, S < 2048 → M4.2 61 S = lN (st S) ∧ st S < 1000007 ∧ cg (fr * st S) (tD L.length (lnd L) lo hi sl fo b c S)) C ?_ ?_ 0 M3 1 (Nat.zero_le _) ⟨jsame.rf, rfl, by decide, fun S => if S = 0 then 1 else 0, fun S hS => ⟨?_, (show (if S = 0 then 1 else 0) < 1000007 by split <;> decide), ?_⟩⟩
  · rintro M4 fr ⟨g1, g2, g3, st, g4⟩
    obtain ⟨z1, z2, z3⟩ := g4 0 (by decide)
    refine b_X1_countWays_30 sC_54 (by decide) (pk_le C C (fun _ => ?_) (fun c => absurd c (by omega)))
    rw [z1, lN_mul, lmod, pk_lRem (Nat.lt_of_le_of_lt (Nat.mul_le_mul (Nat.le_of_lt g3) (Nat.le_of_lt z2)) (by decide)) (by decide) (by decide)]
    rw [tD_end H] at z3
    rw [show fr * st 0 % 1000007 = tS b C (tVl L.length (lnd L) hi fo C) % 1000007 from z3]
    refine h M4 (fun q hq => ?_)
    have u1 := s3 q hq
    have u2 := g1 q (by omega)
    exact ⟨u2.1.trans u1.1, u2.2.trans u1.2⟩
  · rintro c M4 fr hc ⟨g1, g2, g3, st, g4⟩ ih
    have rq4 : rq M4 L := ⟨by rw [g2, (s3 55 (by omega)).1]; exact r1, r2, fun k p hk => by rw [g2, (s3 56 (by omega)).1, (s3 57 (by omega)).1]; exact r3 k p hk⟩
    have sl4 : ∀ k, k < L.length → M4.1 59 k = nI (sl k) ∧ sl k < 11 := fun k hk => by rw [g2, r59]; exact a3 k hk
    obtain ⟨e, e11, er, he⟩ := a5 c hc
    have wb4 : M4.2 54 c = lN (b c) := by rw [(g1 54 (by omega)).2, (s3 54 (by omega)).2]; exact hw c hc
    have bc := hb c hc
    refine b_X1_countWays_30 sC_54 (by decide) (pk_le C c (fun u => absurd u (by omega)) (fun _ => ?_))
    refine k_slotsMet (sl := sl) rq4 hL sl4 (by omega) (fun met m1 m2 => ?_)
    rw [nI_eq0 (by omega)]
    refine ⟨fun m0 => ?_, fun m0 => ⟨c, by omega, rfl, by omega, ?_⟩⟩
    · have un : ∀ k, k < L.length → ¬ (lnd L k).testBit c = true := fun k hk u => by
        have := (m2 (sl k)).mpr ⟨k, hk, u, rfl⟩
        rw [m0, Nat.zero_testBit] at this
        cases this
      rw [show M4.1 55 0 = nI fo by rw [g2, (s3 55 (by omega)).1]; exact hfo, nI_testBit0 fo f31 (by omega), nI_1]
      refine ⟨fun u => ih M4 fr ⟨g1, g2, g3, st, fun S hS => ?_⟩, fun u => ⟨c, by omega, rfl, ?_⟩⟩
      · obtain ⟨c1, c2, c3⟩ := g4 S hS
        refine ⟨c1, c2, ?_⟩
        rw [tD_free H un, if_pos (show fo.testBit c = true by revert u; cases fo.testBit c <;> simp), Nat.zero_mul, Nat.zero_add]
        exact c3
      · rw [wb4, show (1 : Int64) = lN 1 from rfl, lN_add, lN_mul, lmod, pk_lRem (Nat.lt_of_le_of_lt (Nat.mul_le_mul (Nat.le_of_lt g3) (show b c + 1 ≤ 100 by omega)) (by decide)) (by decide) (by decide)]
        refine ih M4 _ ⟨g1, g2, Nat.mod_lt _ (by decide), st, fun S hS => ?_⟩
        obtain ⟨c1, c2, c3⟩ := g4 S hS
        refine ⟨c1, c2, ?_⟩
        rw [tD_free H un, u, if_neg (by decide)]
        have h1 : cg (fr * (b c + 1) % 1000007 * st S) (fr * (b c + 1) * st S) := (cg.md _).mul cg.rf
        have h2 : fr * (b c + 1) * st S = b c * (fr * st S) + fr * st S := by
          rw [Nat.mul_add, Nat.mul_one, Nat.add_mul, Nat.mul_comm fr (b c), Nat.mul_assoc]
        rw [h2] at h1
        exact h1.tr (((cg.rf (a := b c)).mul c3).add c3)
    · have e60 : ∀ M5 : jM, M5.1 = M3.1 → M5.1 60 c = nI (2 ^ e) := fun M5 q => by rw [q, r60]; exact er
      have metlt : met < 2 ^ e := by
        apply Nat.lt_pow_two_of_testBit
        intro i hie
        cases u : met.testBit i
        · rfl
        · obtain ⟨k, k1, k2, k3⟩ := (m2 i).mp u
          have := H.in k1 k2
          have := he k k1 this.1 this.2
          omega
      have nfo : fo.testBit c = false := by
        obtain ⟨j, hj⟩ := ne0_bit.mp m0
        obtain ⟨k, k1, k2, k3⟩ := (m2 j).mp hj
        cases u : fo.testBit c
        · rfl
        · exact absurd ⟨k2, u⟩ (and0_bit.mp (hh k k1).2.2.2 c)
      rw [wb4, e60 M4 g2]
      refine k_raise (D := tD L.length (lnd L) lo hi sl fo b c) (T := tT L.length (lnd L) lo hi sl fo b c met) (fr := fr) e11 metlt (by omega) g4 (fun S hS _ => ⟨(tBig he hS).1, tT_top he⟩) (fun S _ => tT_top he) (fun j S => tT_step) (fun j => tS_no (fun R _ ⟨_, S', _, q2, q3⟩ => by
        have : S' ≤ S' ||| met := Nat.left_le_or
        omega)) (fun M5 st5 f1 f2 f3 => ?_)
      have rq5 : rq M5 L := ⟨by rw [f2]; exact rq4.1, r2, fun k p hk => by rw [f2]; exact rq4.2.2 k p hk⟩
      refine k_slotsClosing (hi := hi) (sl := sl) rq5 (fun k hk => ⟨(hh k hk).2.1, by have := hiC k hk; omega⟩) (fun k hk _ => by rw [f2]; exact sl4 k hk) (by omega) (fun cl c1 c2 => ?_)
      have cllt : cl < 2 ^ e := by
        apply Nat.lt_pow_two_of_testBit
        intro i hie
        cases u : cl.testBit i
        · rfl
        · obtain ⟨k, k1, k2, k3⟩ := (c2 i).mp u
          have := H.lohi k1
          have := he k k1 (by omega) (by omega)
          omega
      have p11 : 2 ^ e ≤ 2048 := Nat.pow_le_pow_right (n := 2) (by decide) e11
      rw [e60 M5 (f2.trans g2)]
      refine k_close (st := st5) e11 cllt (fun S hS => (f3 S hS).1) (fun M6 t1 t2 t3 => ?_)
      rw [nI_1]
      refine ih M6 fr ⟨g1.tr (f1.tr t1), t2.trans (f2.trans g2), g3, fun S => if S < 2 ^ e then (if S &&& cl = 0 then st5 (S ||| cl) else 0) else st5 S, fun S hS => ⟨t3 S hS, ?_, ?_⟩⟩
      · show (if S < 2 ^ e then (if S &&& cl = 0 then st5 (S ||| cl) else 0) else st5 S) < 1000007
        split
        · split
          · exact (f3 _ (Nat.lt_of_lt_of_le (Nat.or_lt_two_pow (by assumption) cllt) p11)).2.1
          · decide
        · exact (f3 S hS).2.1
      · have E : ∀ S, S < 2048 → cg (fr * st5 S) (tE L.length (lnd L) lo hi sl fo b c S) := fun S hS => by
          rw [tE_touch H nfo m2]; exact (f3 S hS).2.2
        show cg (fr * (if S < 2 ^ e then (if S &&& cl = 0 then st5 (S ||| cl) else 0) else st5 S)) _
        by_cases u : S < 2 ^ e
        · rw [if_pos u, tD_close H c2]
          by_cases v : S &&& cl = 0
          · rw [if_pos v, if_pos v]
            exact E _ (Nat.lt_of_lt_of_le (Nat.or_lt_two_pow u cllt) p11)
          · rw [if_neg v, if_neg v, Nat.mul_zero]; exact cg.rf
        · rw [if_neg u]
          obtain ⟨_, z2, z3⟩ := tBig (b := b) (fo := fo) (nd := lnd L) he (show 2 ^ e ≤ S by omega)
          have := E S hS
          rw [z2] at this
          rw [z3]; exact this
  · rw [e3, jrL_s]
    show vp_updL (M2.2 61) 0 1 S = lN (if S = 0 then 1 else 0)
    by_cases q : S = 0
    · rw [q, pk_uLs, if_pos rfl]; rfl
    · rw [pk_uLn q, if_neg q]; exact b3 S hS
  · rw [tD_0, Nat.one_mul]; exact cg.rf
end CNT
