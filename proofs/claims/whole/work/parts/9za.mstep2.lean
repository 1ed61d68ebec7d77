/-! the model reads a step with all that stands in it -/
section MS2
variable {x : jX} {E : Nat} {M0 : jM} {f : Nat → Int32} {n : Nat} {pl : qP} {R : qE qOS}
theorem m_readStep (hp0 : mPl (M0.1 5) pl) (hn0 : ∀ v, v < qn pl → M0.2 6 v = qName pl v) : ∀ j k a (st : qOS) (M : jM) (P : jM → Prop), st.1 + j = 3 → n ≤ a + k → oLoop f n pl k a st = R → mSame M0 M → mOS M f n a pl st → (st.1 = 0 → ¬ yK f n a = 0) → (¬ st.1 = 0 → ¬ yI f n a = 16) → sG M0 f n pl R k st P → (∀ e, R = .inl e → ∀ M', mSame M0 M' → mBd M' e → P M') → JC x jtbM mX12_readStep (E + j + 7) [.ref (x.2.2.2 0), .int (nI st.1)] M (jV P) := by
  intro j
  induction j with
  | zero =>
    intro k a st M P h3 hk hR s0 hO c1 c2 hG hB
    exact m_stepHead (E := E) hp0 hn0 hk hR s0 hO c1 c2 hG hB (fun k1 a2 kk g M6 _ lt => absurd lt (by omega))
  | succ j ih =>
    intro k a st M P h3 hk hR s0 hO c1 c2 hG hB
    refine m_stepHead (E := E + j + 1) hp0 hn0 hk hR s0 hO c1 c2 hG hB (fun k1 a2 kk g M6 bl lt3 lk hk1 hR1 s6 hO6 => ?_)
    obtain ⟨dp, sk, s, m, o⟩ := st
    obtain ⟨-, -, -, -, ⟨⟨i1, i2, i3, i4⟩, w2, -⟩⟩ := id hO
    obtain ⟨⟨j1, j2, j3, j4⟩, -⟩ := id hO6.2.2.2.2
    dsimp only at h3 c1 c2 i1 i2 i3 i4 w2 lt3 j2 ⊢
    have s30 : s + 1 ≤ 30 := j2
    have sm : oSt o m = s := w2 _
    have loop : ∀ k2, ∀ a2 st2 M2, k2 < k → n ≤ a2 + k2 → oLoop f n pl k2 a2 st2 = R → mSame M0 M2 → mOS M2 f n a2 pl st2 → st2.1 = dp + 1 → (∀ i, i < dp + 1 → st2.2.1 i = tset sk dp m i) → oExt (oOpen (dp, sk, s, m, o) kk g) st2 → JW x jtbM mX12_readStep (E + j + 7 + 1) (jV P) 203 [(0, .ref (x.2.2.2 0)), (1, .int (nI dp)), (3, .int (1 : Int32)), (4, .int (nI (1819 + 8 * s)))] [] M2 := by
      intro k2
      induction k2 using Nat.strongRecOn with
      | ind k2 ihk =>
        intro a2 st2 M2 lk2 hk2 hR2 s2 hO2 d2 sk2 ext2
        obtain ⟨r2, ok2, v2, sp2, wl2⟩ := id hO2
        refine b_X12_readStep_203 (d := E + j + 7) ⟨fun u => absurd u (by decide), fun _ => ⟨fun u => absurd ok2 u, fun _ => m_isEnd r2 ⟨fun yE => ?_, fun nE => ?_⟩⟩⟩
        · have y16 := of_decide_eq_true yE
          have kk2 : yK f n a2 = 2 := (yI_word (by omega)).1
          obtain ⟨k3, rfl⟩ : ∃ k3, k2 = k3 + 1 := ⟨k2 - 1, by
            have : ¬ k2 = 0 := fun u => by
              have := yK_end (f := f) (n := n) (a := a2) (by omega)
              omega
            omega⟩
          rw [oLoop, if_neg (by omega)] at hR2
          have os : oStep f n a2 pl st2 = tkS f n (yX f n a2) (oEnd st2) := by
            unfold oStep; rw [if_pos y16, if_neg (by omega)]
          have bad : ∀ e, oStep f n a2 pl st2 = .inl e → ∀ M', mSame M0 M' → mBd M' e → P M' := fun e he => by
            rw [he] at hR2
            exact hB e hR2.symm
          refine b_X12_readStep_231 (d := E + j + 7) ⟨fun u => absurd u (by decide), fun _ => m_isEnd r2 (m_must ok2 r2 (fun _ M3 k3' r3 => m_isSign r3.2.1 (m_must (k3'.ok ok2) r3 (fun ys M4 k4 r4 => ?_) (fun ns M4 b4 => ?_))) (fun u => absurd (u.symm.trans yE) (by decide)))⟩
          · unfold tkS at os
            rw [if_pos (of_decide_eq_true ys)] at os
            obtain ⟨o1, o2, -⟩ := oStep_ok r2.2.2 wl2.1 os
            have wl4 := oStep_wl r2.2.2 wl2 os
            rw [os] at hR2
            dsimp only at hR2
            have v4 : M4.1 0 53 = nI st2.2.2.1 := by rw [k4.2.1 53 (by omega), k3'.2.1 53 (by omega)]; exact v2
            have s4 := (s2.tr k3'.same).tr k4.same
            have ok4 := k4.ok (k3'.ok ok2)
            have q4 : M4.1 5 = M2.1 5 := by rw [k4.r5, k3'.r5]
            refine b_X12_readStep_253 (d := E + j + 7) ⟨1819 + 8 * s + 7, by omega, by rw [show (7 : Int32) = nI 7 from rfl, nI_add], fun M5 e5 => ?_⟩
            rw [v4] at e5
            obtain ⟨dp2, skk, ss, mm, oo⟩ := st2
            dsimp only at d2 sk2 v4
            subst d2
            have top : skk dp = m := by rw [sk2 dp (by omega)]; unfold tset; rw [if_pos rfl]
            have topS : oSt oo m = s := by
              rw [ext2.2 m (Nat.le_succ m)]
              exact ((open_ext (dp := dp) (sk := sk) (s := s) (m := m) (o := o) (k := kk) (g := g)).2 m (Nat.le_refl _)).trans sm
            have bm : skk (dp + 1 - 1) < mm := wl2.1.2.2.2 dp (by show dp < dp + 1; omega)
            refine hG k3 (yX f n (yX f n a2)) (oEnd (dp + 1, skk, ss, mm, oo)) M5 (by omega) (by omega) hR2 (by rw [e5]; exact s4.tr (mYq.put (by omega)).1) ⟨by rw [e5]; exact r4.put, by rw [e5]; exact ok_put ok4, by rw [e5, jrI_n (by omega)]; exact v4, ?_, wl4⟩ rfl (fun i hi => ?_) (open_ext.tr (ext2.tr (end_ext bm)))
            · refine sp2.end_ wl2 (by omega) (fun q hq => ?_) ?_
              · rw [show dp + 1 - 1 = dp from rfl, top, topS] at hq
                rw [e5, jrI_s, pk_un hq, q4]
              · rw [show dp + 1 - 1 = dp from rfl, top, topS, e5, jrI_s, pk_us]
            · have hi' : i < dp := hi
              show skk i = sk i
              rw [sk2 i (by omega)]; unfold tset; rw [if_neg (by omega)]
          · unfold tkS at os
            rw [if_neg (of_decide_eq_false ns)] at os
            exact m_step253B (E := E + j + 7) (by omega) (by omega) ((s2.tr k3'.same).tr b4.1) b4.2 (bad _ os)
        · rw [show nI dp + (1 : Int32) = nI st2.1 by rw [d2, nI_1]]
          refine ih k2 a2 st2 M2 _ (by omega) hk2 hR2 s2 hO2 (fun u => absurd u (by omega)) (fun _ => of_decide_eq_false nE) (fun k' a' st' M' lk' hk' hR' s' hO' d' sk' ext' => ?_) (fun e he M' s' b' => m_step203B (E := E + j + 6) (by omega) (by omega) s' b' (hB e he))
          exact ihk k' lk' a' st' M' (by omega) hk' hR' s' hO' (by omega) (fun i hi => by rw [sk' i (by omega)]; exact sk2 i hi) (ext2.tr ext')
    refine loop k1 a2 _ M6 lk hk1 hR1 s6 hO6 ?_ (fun i _ => ?_) oExt.rf
    · show (if kk = 10 ∨ kk = 15 then dp + 1 else dp) = dp + 1
      rw [if_pos bl]
    · show (if kk = 10 ∨ kk = 15 then tset sk dp m else sk) i = _
      rw [if_pos bl]
end MS2
