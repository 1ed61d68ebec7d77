section STN
variable {x : jX} {d : Nat} {M : jM} {z : qZ}
theorem mod_bit (n v : Nat) : n % 2 ^ v ||| (jb (n.testBit v)).toNatClampNeg * 2 ^ v = n % 2 ^ (v + 1) := by
  apply Nat.eq_of_testBit_eq
  intro i
  rw [Nat.testBit_or, Nat.testBit_mod_two_pow, Nat.testBit_mod_two_pow, Nat.testBit_mul_two_pow]
  rcases Nat.lt_trichotomy i v with q | q | q
  · rw [decide_eq_true q, decide_eq_true (show i < v + 1 by omega), decide_eq_false (show ¬ v ≤ i by omega)]; simp
  · subst q
    rw [decide_eq_false (Nat.lt_irrefl i), decide_eq_true (Nat.lt_succ_self i), decide_eq_true (Nat.le_refl i), Nat.sub_self]
    cases n.testBit i <;> rfl
  · rw [decide_eq_false (show ¬ i < v by omega), decide_eq_false (show ¬ i < v + 1 by omega), decide_eq_true (show v ≤ i by omega)]
    have : (jb (n.testBit v)).toNatClampNeg < 2 ^ (i - v) := by
      have h2 : 2 ^ 1 ≤ 2 ^ (i - v) := Nat.pow_le_pow_right (by decide) (by omega)
      cases n.testBit v
      · exact Nat.lt_of_lt_of_le (show (jb false).toNatClampNeg < 2 ^ 1 by decide) h2
      · exact Nat.lt_of_lt_of_le (show (jb true).toNatClampNeg < 2 ^ 1 by decide) h2
    rw [Nat.testBit_lt_two_pow this]; rfl
theorem jb_shl (b : Bool) {v : Nat} (hv : v < 31) : jb b <<< (nI v &&& 31) = nI ((jb b).toNatClampNeg * 2 ^ v) := by
  cases b
  · rw [show (jb false).toNatClampNeg = 0 from rfl, Nat.zero_mul]
    exact (show ∀ n, n < 31 → jb false <<< (nI n &&& 31) = nI 0 by decide +kernel) v hv
  · rw [show (jb true).toNatClampNeg = 1 from rfl, Nat.one_mul]
    exact nI_shl1 v hv
theorem n_struck {P : jM → Int32 → Prop} (h : mI M z) (hP : ∀ M', mI M' (sStruck z).1 → P M' (sStruck z).2) : JC x jtbM mX12_struck (d + 3) [.ref (x.2.2.2 0)] M (jI P) := by
  unfold sStruck at hP
  refine b_X12_struck ?_
  rintro M1 rfl M2 rfl
  have h2 := (h.th 0).st 0
  generalize jrI (jrI M 0 (upd (M.1 0) 1 0)) 0 (upd ((jrI M 0 (upd (M.1 0) 1 0)).1 0) 0 0) = M2 at h2 ⊢
  have w := h.pl.wf
  have h6 := w.2.2.2.1
  have k64 := qk_lt w
  refine jloop (fun v (s : Int32) => JW x jtbM mX12_struck (d + 3) (jI P) 14 [(0, .ref (x.2.2.2 0)), (1, .int s), (2, .int (nI v))] [] M2) (fun v s => s = nI (qk (zP z) % 2 ^ v)) (qn (zP z)) ?_ ?_ 0 0 (Nat.zero_le _) (by rw [Nat.pow_zero, Nat.mod_one]; rfl)
  · rintro _ rfl
    refine b_X12_struck_14 ?_
    rw [h2.pl.n]
    refine pk_le (qn (zP z)) (qn (zP z)) (fun _ => ?_) (fun c => absurd c (by omega))
    rw [Nat.mod_eq_of_lt w.2.2.2.2.1]
    refine jloop2 (fun v (M3 : jM) (s : Int32) => JW x jtbM mX12_struck (d + 3) (jI P) 48 [(0, .ref (x.2.2.2 0)), (1, .int (nI (qk (zP z)))), (2, .int s), (3, .int (nI v))] [] M3) (fun v M3 s => mI M3 (uSt z 0) ∧ s = oI (qBest (qOkM (zP z)) v)) (qk (zP z) + 1) ?_ ?_ 0 M2 (-1) (Nat.zero_le _) ⟨h2, rfl⟩
    · rintro M3 _ ⟨g, rfl⟩
      refine b_X12_struck_48 (pk_lt (qk (zP z)) (qk (zP z) + 1) (fun _ => ?_) (fun c => absurd c (by omega)))
      cases e : qBest (qOkM (zP z)) (qk (zP z) + 1) with
      | none =>
        rw [e] at hP
        exact ⟨fun c => absurd c (by decide), fun _ => m_refuse g hP⟩
      | some b =>
        rw [e] at hP
        have := (qBest_lt e).1
        exact ⟨fun _ => hP _ g, fun c => absurd (nI_pos' (show b < 2 ^ 31 by omega)) c⟩
    · rintro v M3 _ hv ⟨g, rfl⟩ ih
      have try_ : (v &&& qk (zP z) = v) → (∀ t, qBest (qOkM (zP z)) v = some t → qPop v < qPop t) → JW x jtbM mX12_struck (d + 3) (jI P) 79 [(0, .ref (x.2.2.2 0)), (1, .int (nI (qk (zP z)))), (2, .int (oI (qBest (qOkM (zP z)) v))), (3, .int (nI v))] [] M3 := fun e q => by
        refine b_X12_struck_79 ?_
        rw [nI_andn (by omega), nI_1]
        have lt : qk (zP z) ^^^ (qk (zP z) &&& v) < 64 := Nat.xor_lt_two_pow (n := 6) (by omega) (Nat.lt_of_le_of_lt Nat.and_le_left (by omega))
        refine k_mKeep (set := qk (zP z) ^^^ (qk (zP z) &&& v)) lt g (fun M5 g5 _ _ _ => ⟨fun c => ?_, fun c => ?_⟩)
        · have c' : qOkM (zP z) v = false := by
            unfold qOkM
            rw [show pCan (zP z) (qk (zP z) ^^^ (qk (zP z) &&& v)) = false from c, Bool.and_false]
          exact ih M5 _ ⟨g5, by rw [qBest_no c']⟩
        · have c' : qOkM (zP z) v = true := by
            unfold qOkM
            rw [show pCan (zP z) (qk (zP z) ^^^ (qk (zP z) &&& v)) = true from c, decide_eq_true e]; rfl
          exact ih M5 _ ⟨g5, by rw [qBest_take c' q]; rfl⟩
      refine b_X12_struck_48 (pk_lt (qk (zP z)) v (fun c => absurd c (by omega)) (fun _ => ?_))
      rw [nI_andn (by omega), nI_1]
      have sub : v ^^^ (v &&& qk (zP z)) = 0 ↔ v &&& qk (zP z) = v := ⟨fun e => by
        have := congrArg (fun t => v ^^^ t) e
        rw [← Nat.xor_assoc, Nat.xor_self, Nat.zero_xor, Nat.xor_zero] at this
        exact this, fun e => by rw [e, Nat.xor_self]⟩
      have lt : v ^^^ (v &&& qk (zP z)) < 2 ^ 7 := Nat.xor_lt_two_pow (by omega) (Nat.lt_of_le_of_lt Nat.and_le_left (by omega))
      rw [show (nI (v ^^^ (v &&& qk (zP z))) = (0 : Int32)) = (nI (v ^^^ (v &&& qk (zP z))) = nI 0) from rfl, nI_eq (by omega) (by omega), sub]
      refine ⟨fun c => ?_, fun c => ?_⟩
      · have c' : qOkM (zP z) v = false := by
          unfold qOkM
          rw [decide_eq_false c]; rfl
        exact ih M3 _ ⟨g, by rw [qBest_no c']⟩
      · cases e : qBest (qOkM (zP z)) v with
        | none =>
          rw [e] at try_
          exact ⟨fun _ => try_ c (fun t q => by cases q), fun q => absurd (show (-1 : Int32) < 0 by decide) q⟩
        | some b =>
          have hb := (qBest_lt e).1
          rw [e] at try_
          refine ⟨fun q => absurd q (nI_pos (by omega)), fun _ => k_mBits (n := v) (by omega) (k_mBits (n := b) (by omega) ?_)⟩
          have p1 := fb_ct_le v.testBit 32
          have p2 := fb_ct_le b.testBit 32
          refine pk_lt (qPop v) (qPop b) (fun q => try_ c (fun t ht => by cases ht; exact q)) (fun q => ih M3 _ ⟨g, by rw [qBest_more e q, e]⟩) rfl rfl (Nat.lt_of_le_of_lt p1 (by decide)) (Nat.lt_of_le_of_lt p2 (by decide))
  · rintro v _ hv rfl ih
    refine b_X12_struck_14 ?_
    rw [h2.pl.n]
    refine pk_le (qn (zP z)) v (fun c => absurd c (by omega)) (fun _ => ⟨84 + v, by omega, by rw [jn84, nI_add], ?_⟩)
    rw [h2.pl.has hv, jb_shl _ (by omega), fa_or, nI_1]
    exact ih _ (by rw [← mod_bit]; rfl)
end STN
