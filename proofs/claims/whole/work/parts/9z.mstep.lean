/-! the model reads a step -/
def mOS (M : jM) (f : Nat → Int32) (n a : Nat) (pl : qP) (st : qOS) : Prop := mRt M f n a ∧ M.1 0 12 = 0 ∧ M.1 0 53 = nI st.2.2.1 ∧ mSp (M.1 5) pl st ∧ oWl pl st
def sG (M0 : jM) (f : Nat → Int32) (n : Nat) (pl : qP) (R : qE qOS) (k : Nat) (st : qOS) (P : jM → Prop) : Prop := ∀ k' a' st' M', k' < k → n ≤ a' + k' → oLoop f n pl k' a' st' = R → mSame M0 M' → mOS M' f n a' pl st' → st'.1 = st.1 → (∀ i, i < st.1 → st'.2.1 i = st.2.1 i) → oExt st st' → P M'
section MSX
variable {x : jX} {E : Nat} {M M0 : jM} {f : Nat → Int32} {n a k W : Nat} {pl : qP} {R : qE qOS} {st : qOS} {P : jM → Prop}
theorem m_step253B {e : Int32 × Int32} (hW : 1648 ≤ W) (hW2 : W + 8 ≤ 2060) (s : mSame M0 M) (b : mBd M e) (hB : ∀ M', mSame M0 M' → mBd M' e → P M') : JW x jtbM mX12_readStep (E + 1) (jV P) 253 [(0, .ref (x.2.2.2 0)), (4, .int (nI W))] [] M :=
  b_X12_readStep_253 ⟨W + 7, by omega, by rw [show (7 : Int32) = nI 7 from rfl, nI_add], fun M1 e1 => hB M1 (by rw [e1]; exact s.tr (mYq.put (by omega)).1) (by rw [e1]; exact b.put)⟩
theorem m_step231B {e : Int32 × Int32} {l3 : Int32} (hW : 1648 ≤ W) (hW2 : W + 8 ≤ 2060) (s : mSame M0 M) (b : mBd M e) (hB : ∀ M', mSame M0 M' → mBd M' e → P M') : JW x jtbM mX12_readStep (E + 2) (jV P) 231 [(0, .ref (x.2.2.2 0)), (3, .int l3), (4, .int (nI W))] [] M :=
  b_X12_readStep_231 (d := E + 1) ⟨fun _ => m_step253B hW hW2 s b hB, fun _ => m_isEndA (fun _ => m_mustB b (m_isSignA (fun _ => m_mustB b (m_step253B hW hW2 s b hB))))⟩
theorem m_step203B {e : Int32 × Int32} {l1 l3 : Int32} (hW : 1648 ≤ W) (hW2 : W + 8 ≤ 2060) (s : mSame M0 M) (b : mBd M e) (hB : ∀ M', mSame M0 M' → mBd M' e → P M') : JW x jtbM mX12_readStep (E + 2) (jV P) 203 [(0, .ref (x.2.2.2 0)), (1, .int l1), (3, .int l3), (4, .int (nI W))] [] M :=
  b_X12_readStep_203 (d := E + 1) ⟨fun _ => m_step231B hW hW2 s b hB, fun _ => ⟨fun _ => m_step231B hW hW2 s b hB, fun u => absurd u b.ne⟩⟩
theorem m_step144B {e : Int32 × Int32} {l1 l2 l3 : Int32} (s : mSame M0 M) (b : mBd M e) (hB : ∀ M', mSame M0 M' → mBd M' e → P M') : JW x jtbM mX12_readStep (E + 1) (jV P) 144 [(0, .ref (x.2.2.2 0)), (1, .int l1), (2, .int l2), (3, .int l3)] [] M :=
  b_X12_readStep_144 ⟨fun u => absurd u b.le, fun _ => hB M s b⟩
theorem m_step118B {e : Int32 × Int32} {l1 l2 l3 : Int32} (s : mSame M0 M) (b : mBd M e) (hB : ∀ M', mSame M0 M' → mBd M' e → P M') : JW x jtbM mX12_readStep (E + 1) (jV P) 118 [(0, .ref (x.2.2.2 0)), (1, .int l1), (2, .int l2), (3, .int l3)] [] M :=
  b_X12_readStep_118 ⟨fun _ => m_step144B s b hB, fun u => absurd u b.ne⟩
theorem m_step92B {e : Int32 × Int32} {l1 l2 l3 : Int32} (s : mSame M0 M) (b : mBd M e) (hB : ∀ M', mSame M0 M' → mBd M' e → P M') : JW x jtbM mX12_readStep (E + 1) (jV P) 92 [(0, .ref (x.2.2.2 0)), (1, .int l1), (2, .int l2), (3, .int l3)] [] M :=
  b_X12_readStep_92 ⟨fun _ => m_step118B s b hB, fun u => absurd u b.ne⟩
/-- a step to the semicolon of its first line -/
theorem m_stepHead (hp0 : mPl (M0.1 5) pl) (hn0 : ∀ v, v < qn pl → M0.2 6 v = qName pl v) (hk : n ≤ a + k) (hR : oLoop f n pl k a st = R) (s0 : mSame M0 M) (hO : mOS M f n a pl st) (c1 : st.1 = 0 → ¬ yK f n a = 0) (c2 : ¬ st.1 = 0 → ¬ yI f n a = 16) (hG : sG M0 f n pl R k st P) (hB : ∀ e, R = .inl e → ∀ M', mSame M0 M' → mBd M' e → P M')
    (hN : ∀ k1 a2 kk g M6, (kk = 10 ∨ kk = 15) → st.1 < 3 → k1 < k → n ≤ a2 + k1 → oLoop f n pl k1 a2 (oOpen st kk g) = R → mSame M0 M6 → mOS M6 f n a2 pl (oOpen st kk g) → JW x jtbM mX12_readStep (E + 7) (jV P) 203 [(0, .ref (x.2.2.2 0)), (1, .int (nI st.1)), (3, .int (1 : Int32)), (4, .int (nI (1819 + 8 * st.2.2.1)))] [] M6) : JC x jtbM mX12_readStep (E + 7) [.ref (x.2.2.2 0), .int (nI st.1)] M (jV P) := by
  obtain ⟨dp, sk, s, m, o⟩ := st
  obtain ⟨r, ok, e53, sp, wl⟩ := id hO
  obtain ⟨⟨i1, i2, i3, i4⟩, -⟩ := id wl
  dsimp only at e53 i1 i2 i3 i4 c1 c2 hN ⊢
  have il := yI_le (f := f) (n := n) (a := a)
  -- not a step's word
  have none_ : ¬ (yI f n a = 6 ∨ yI f n a = 7 ∨ yI f n a = 9 ∨ yI f n a = 10 ∨ yI f n a = 15 ∨ yI f n a = 17) → R = .inl (yF f n a 2) := fun nk => by
    cases k with
    | zero =>
      rw [oLoop] at hR
      rw [if_neg (show ¬ (dp, sk, s, m, o).1 = 0 from fun u => c1 u (yK_end (by omega)))] at hR
      exact hR.symm
    | succ k1 =>
      rw [oLoop] at hR
      by_cases k0 : yK f n a = 0
      · rw [if_pos k0, if_neg (show ¬ (dp, sk, s, m, o).1 = 0 from fun u => c1 u k0)] at hR
        exact hR.symm
      · rw [if_neg k0] at hR
        have : oStep f n a pl (dp, sk, s, m, o) = .inl (yF f n a 2) := by
          unfold oStep
          by_cases y16 : yI f n a = 16
          · rw [if_pos y16, if_pos (show (dp, sk, s, m, o).1 = 0 from Decidable.byContradiction (fun u => c2 u y16))]
          · rw [if_neg y16, if_neg nk]
        rw [this] at hR
        exact hR.symm
  -- a step's word
  have go : ∀ kk, kk = yI f n a → (kk = 6 ∨ kk = 7 ∨ kk = 9 ∨ kk = 10 ∨ kk = 15 ∨ kk = 17) → ∀ l3 : Int32, (l3 = if kk = 10 ∨ kk = 15 then 1 else 0) → JW x jtbM mX12_readStep (E + 7) (jV P) 92 [(0, .ref (x.2.2.2 0)), (1, .int (nI dp)), (2, .int (mKd (nI kk))), (3, .int l3)] [] M := fun kk ek kd l3 hl => by
    have k2 : yK f n a = 2 := (yI_word (by omega)).1
    obtain ⟨k1, rfl⟩ : ∃ k1, k = k1 + 1 := ⟨k - 1, by
      have : ¬ k = 0 := fun u => by
        have := yK_end (f := f) (n := n) (a := a) (by omega)
        omega
      omega⟩
    rw [oLoop, if_neg (by omega)] at hR
    have os : oStep f n a pl (dp, sk, s, m, o) = if 30 ≤ s then .inl (yF f n a 6) else if (kk = 10 ∨ kk = 15) ∧ 3 ≤ dp then .inl (yF f n a 7) else eB (pRest f n (yX f n a) pl kk (aSet (fun q => o q m) 0 (nI kk))) (fun a1 g => tkS f n a1 (oOpen (dp, sk, s, m, o) kk g)) := by
      unfold oStep
      dsimp only
      rw [← ek, if_neg (by omega), if_pos kd]
    have bad : ∀ e, oStep f n a pl (dp, sk, s, m, o) = .inl e → ∀ M', mSame M0 M' → mBd M' e → P M' := fun e he => by
      rw [he] at hR
      exact hB e hR.symm
    have e30 : M.1 0 53 = (30 : Int32) ↔ s = 30 := by rw [e53]; exact nI_eq (b := 30) (by omega) (by omega)
    have l0 : l3 = 0 ↔ ¬ (kk = 10 ∨ kk = 15) := by
      rw [hl]
      split
      · exact ⟨fun u => absurd u (by decide), fun u => absurd (by assumption) u⟩
      · exact ⟨fun _ => by assumption, fun _ => rfl⟩
    have main : ¬ 30 ≤ s → ¬ ((kk = 10 ∨ kk = 15) ∧ 3 ≤ dp) → JW x jtbM mX12_readStep (E + 7) (jV P) 144 [(0, .ref (x.2.2.2 0)), (1, .int (nI dp)), (2, .int (mKd (nI kk))), (3, .int l3)] [] M := fun n30 n3 => by
      rw [if_neg n30, if_neg n3] at os
      refine b_X12_readStep_144 (d := E + 6) ⟨fun _ => ?_, fun u => absurd (by rw [ok]; decide) u⟩
      intro M1 e1
      have aW : (1819 : Int32) + 8 * M.1 0 53 = nI (1819 + 8 * s) := by rw [e53, show (8 : Int32) = nI 8 from rfl, pk_mul, show (1819 : Int32) = nI 1819 from rfl, nI_add]
      rw [aW]
      rw [e53, show (1 : Int32) = nI 1 from rfl, nI_add] at e1
      have r1 : mRt M1 f n a := by rw [e1]; exact r.slot (by omega) (by omega)
      have s1 : mSame M0 M1 := by rw [e1]; exact s0.tr (mSame.slot (by unfold mScI; omega))
      have ok1 : M1.1 0 12 = 0 := by rw [e1, jrI_s, pk_un (by omega)]; exact ok
      have v1 : M1.1 0 53 = nI (s + 1) := by rw [e1, jrI_s, pk_us]
      have q1 : M1.1 5 = M.1 5 := by rw [e1, jrI_n (by omega)]
      refine m_go r1 (fun M2 k2 r2 => ⟨1819 + 8 * s, by omega, rfl, fun M3 e3 => ?_⟩)
      have r3 : mRt M3 f n (yX f n a) := by rw [e3]; exact r2.put
      have ok3 : M3.1 0 12 = 0 := by rw [e3]; exact ok_put (k2.ok ok1)
      have s3 : mSame M0 M3 := by rw [e3]; exact (s1.tr k2.same).tr (mYq.put (by omega)).1
      have v3 : M3.1 0 53 = nI (s + 1) := by rw [e3, jrI_n (by omega), k2.2.1 53 (by omega)]; exact v1
      have q3 : ∀ q, q ≠ 1819 + 8 * s → M3.1 5 q = M.1 5 q := fun q hq => by rw [e3, jrI_s, pk_un hq, k2.r5, q1]
      have c3 : M3.1 5 (1819 + 8 * s) = mKd (nI kk) := by rw [e3, jrI_s, pk_us]
      have six := hp0.wf.2.2.2.1
      refine m_readRest kd (aSet_s (g := fun q => o q m) (k := 0)) (by omega) (by omega) (hp0.sm s3) (nm_sm hn0 six s3) ok3 r3 c3 (fun p hp' M4 u4 r4 ok4 b4 => ?_) (fun e he M4 s4 b4 => m_isSignA (fun _ => m_mustB b4 (m_step203B (E := E + 5) (by omega) (by omega) (s3.tr s4) b4 (bad e (by rw [os, he]; rfl)))))
      rw [hp', eB_r] at os
      have g0 : p.2 0 = nI kk := (pRest_bd kd r3.2.2 (aSet_s (g := fun q => o q m) (k := 0)) hp').1
      have s4 : mSame M0 M4 := s3.tr u4.1
      refine m_isSign r4.2.1 (m_must ok4 r4 (fun ys M6 k6 r6 => ?_) (fun ns M6 b6 => ?_))
      · unfold tkS at os
        rw [if_pos (of_decide_eq_true ys)] at os
        obtain ⟨o1, o2, o3⟩ := oStep_ok r.2.2 wl.1 os
        have wl6 := oStep_wl r.2.2 wl os
        rw [os] at hR
        dsimp only at hR
        have s6 := s4.tr k6.same
        have ok6 := k6.ok ok4
        have v6 : M6.1 0 53 = nI (s + 1) := by rw [k6.2.1 53 (by omega), u4.2.2.2]; exact v3
        have q6 : ∀ q, q < 1819 + 8 * s → M6.1 5 q = M.1 5 q := fun q hq => by rw [k6.r5, u4.2.1 q (by omega), q3 q (by omega)]
        by_cases bl : kk = 10 ∨ kk = 15
        · rw [if_pos bl] at hl
          rw [hl]
          refine hN k1 _ kk p.2 M6 bl (by omega) (by omega) (by omega) hR s6 ⟨r6, ok6, v6, sp.open_ wl g0 (by omega) q6 (by rw [k6.r5]; exact b4) (fun u => absurd bl u), wl6⟩
        · have hl0 := l0.mpr bl
          refine b_X12_readStep_203 (d := E + 6) ⟨fun _ => b_X12_readStep_231 (d := E + 6) ⟨fun _ => b_X12_readStep_253 (d := E + 6) ⟨1819 + 8 * s + 7, by omega, by rw [show (7 : Int32) = nI 7 from rfl, nI_add], fun M7 e7 => ?_⟩, fun u => absurd hl0 u⟩, fun u => absurd hl0 u⟩
          rw [v6] at e7
          refine hG k1 (yX f n p.1) _ M7 (by omega) (by omega) hR (by rw [e7]; exact s6.tr (mYq.put (by omega)).1) ⟨by rw [e7]; exact r6.put, by rw [e7]; exact ok_put ok6, by rw [e7, jrI_n (by omega)]; exact v6, sp.open_ wl g0 (by omega) (fun q hq => by rw [e7, jrI_s, pk_un (by omega)]; exact q6 q hq) (b4.congr (fun _ _ => rfl) (fun q hq => by rw [e7, jrI_s, pk_un (by omega), k6.r5])) (fun _ => by rw [e7, jrI_s, pk_us]), wl6⟩ ?_ (fun i hi => ?_) open_ext
          · show (if kk = 10 ∨ kk = 15 then dp + 1 else dp) = dp
            rw [if_neg bl]
          · show (if kk = 10 ∨ kk = 15 then tset sk dp m else sk) i = sk i
            rw [if_neg bl]
      · unfold tkS at os
        rw [if_neg (of_decide_eq_false ns)] at os
        exact m_step203B (E := E + 5) (by omega) (by omega) (s4.tr b6.1) b6.2 (bad _ os)
    refine b_X12_readStep_92 (d := E + 6) ⟨fun u => absurd ok u, fun _ => ?_⟩
    rw [e30]
    refine ⟨fun ne => b_X12_readStep_118 (d := E + 6) ⟨fun u => absurd ok u, fun _ => ?_⟩, fun e => m_failAt ok r.2.1 (by decide) (by omega) (fun M' b => m_step118B (s0.tr b.1) b.2 (bad _ (by rw [os, if_pos (by omega)])))⟩
    have d3 : nI dp = (3 : Int32) ↔ dp = 3 := nI_eq (b := 3) (by omega) (by omega)
    rw [l0, d3]
    refine ⟨fun nb => main (by omega) (fun u => nb u.1), fun yb => ⟨fun n3 => main (by omega) (fun u => absurd u.2 (by omega)), fun y3 => m_failAt ok r.2.1 (by decide) (by omega) (fun M' b => m_step144B (s0.tr b.1) b.2 (bad _ ?_))⟩⟩
    rw [os, if_neg (by omega), if_pos ⟨Decidable.byContradiction yb, by omega⟩]
  have s67 : ∀ kk, kk = yI f n a → (kk = 6 ∨ kk = 7 ∨ kk = 9 ∨ kk = 10 ∨ kk = 15 ∨ kk = 17) → JW x jtbM mX12_readStep (E + 7) (jV P) 67 [(0, .ref (x.2.2.2 0)), (1, .int (nI dp))] [.int (mKd (nI kk))] M := fun kk ek kd => by
    have g := go kk ek kd
    refine b_X12_readStep_67 (d := E + 6) ?_
    rcases kd with rfl | rfl | rfl | rfl | rfl | rfl
    · exact ⟨fun u => absurd u (by decide), fun _ => ⟨fun _ => ⟨fun _ => g 0 rfl, fun u => absurd (by decide) u⟩, fun u => absurd u (by decide)⟩⟩
    · exact ⟨fun u => absurd u (by decide), fun _ => ⟨fun _ => ⟨fun _ => g 0 rfl, fun u => absurd (by decide) u⟩, fun u => absurd u (by decide)⟩⟩
    · exact ⟨fun u => absurd u (by decide), fun _ => ⟨fun _ => ⟨fun _ => g 0 rfl, fun u => absurd (by decide) u⟩, fun u => absurd u (by decide)⟩⟩
    · exact ⟨fun _ => ⟨fun _ => g 1 rfl, fun u => absurd (by decide) u⟩, fun u => absurd (by decide) u⟩
    · exact ⟨fun u => absurd u (by decide), fun _ => ⟨fun u => absurd (by decide) u, fun _ => ⟨fun _ => g 1 rfl, fun u => absurd (by decide) u⟩⟩⟩
    · exact ⟨fun u => absurd u (by decide), fun _ => ⟨fun _ => ⟨fun _ => g 0 rfl, fun u => absurd (by decide) u⟩, fun u => absurd u (by decide)⟩⟩
  have at_ : ∀ kk, decide (yI f n a = kk) = true → kk = yI f n a := fun kk h => (of_decide_eq_true h).symm
  refine b_X12_readStep (d := E + 6) (m_isRaise r ⟨fun n6 => m_isLower r ⟨fun n7 => m_isStorm r ⟨fun n9 => m_isWhen r ⟨fun n10 => m_isLoop r ⟨fun n15 => m_isStop r ⟨fun n17 => ?_, fun y => s67 17 (at_ 17 y) (by omega)⟩, fun y => s67 15 (at_ 15 y) (by omega)⟩, fun y => s67 10 (at_ 10 y) (by omega)⟩, fun y => s67 9 (at_ 9 y) (by omega)⟩, fun y => s67 7 (at_ 7 y) (by omega)⟩, fun y => s67 6 (at_ 6 y) (by omega)⟩)
  have h6 := of_decide_eq_false n6
  have h7 := of_decide_eq_false n7
  have h9 := of_decide_eq_false n9
  have h10 := of_decide_eq_false n10
  have h15 := of_decide_eq_false n15
  have h17 := of_decide_eq_false n17
  have hb := hB _ (none_ (by omega))
  exact b_X12_readStep_67 (d := E + 6) ⟨fun u => absurd u (by decide), fun _ => ⟨fun _ => ⟨fun u => absurd u (by decide), fun _ => m_wrong ok r.2.1 (fun M' b => m_step92B (s0.tr b.1) b.2 hb)⟩, fun u => absurd u (by decide)⟩⟩
end MSX
