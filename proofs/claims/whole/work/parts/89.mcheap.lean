/-! the model finds its covers, and the least cost -/
noncomputable def mSt (pl : qP) (want : Nat → Nat → Nat) (cp : Nat → Nat) (v : Nat) (L : List Nat) : Nat → List Nat
  | 0 => L
  | s + 1 => if qFreeB pl cp (qAb pl want cp v s (qc pl)) = true then mSt pl want cp v L s else mSt pl want cp v L s ++ [qAb pl want cp v s (qc pl)]
noncomputable def mVl (pl : qP) (ask : Nat) (want : Nat → Nat → Nat) (cp : Nat → Nat) : Nat → List Nat
  | 0 => []
  | v + 1 => if ask.testBit v = true then mSt pl want cp v (mVl pl ask want cp v) (qSt pl v) else mVl pl ask want cp v
section MCH
variable {pl : qP} {ask : Nat} {want : Nat → Nat → Nat} {cp : Nat → Nat}
theorem mSt_mem {v f : Nat} {L : List Nat} : ∀ n, f ∈ mSt pl want cp v L n ↔ f ∈ L ∨ ∃ s, s < n ∧ f = qAb pl want cp v s (qc pl) ∧ ¬ qFree pl cp f
  | 0 => ⟨fun h => Or.inl h, fun h => h.resolve_right (fun ⟨s, hs, _⟩ => absurd hs (Nat.not_lt_zero _))⟩
  | n + 1 => by
    have ih := mSt_mem (v := v) (f := f) (L := L) n
    rw [mSt]
    split
    · rename_i fr
      rw [qFreeB_t] at fr
      rw [ih]
      refine or_congr_right ⟨fun ⟨s, h1, h2⟩ => ⟨s, by omega, h2⟩, fun ⟨s, h1, h2, h3⟩ => ?_⟩
      rcases Nat.lt_or_ge s n with u | u
      · exact ⟨s, u, h2, h3⟩
      · obtain rfl : s = n := by omega
        rw [h2] at h3
        exact absurd fr h3
    · rename_i fr
      rw [qFreeB_t] at fr
      rw [List.mem_append, List.mem_singleton, ih]
      constructor
      · rintro ((h | ⟨s, h1, h2⟩) | h)
        · exact Or.inl h
        · exact Or.inr ⟨s, by omega, h2⟩
        · exact Or.inr ⟨n, by omega, h, by rw [h]; exact fr⟩
      · rintro (h | ⟨s, h1, h2, h3⟩)
        · exact Or.inl (Or.inl h)
        · rcases Nat.lt_or_ge s n with u | u
          · exact Or.inl (Or.inr ⟨s, u, h2, h3⟩)
          · obtain rfl : s = n := by omega
            exact Or.inr h2
theorem mVl_mem {f : Nat} : ∀ n, f ∈ mVl pl ask want cp n ↔ ∃ v s, v < n ∧ ask.testBit v = true ∧ s < qSt pl v ∧ f = qAb pl want cp v s (qc pl) ∧ ¬ qFree pl cp f
  | 0 => ⟨fun h => (by cases h), fun ⟨v, s, hv, _⟩ => absurd hv (Nat.not_lt_zero _)⟩
  | n + 1 => by
    have ih := mVl_mem (f := f) n
    rw [mVl]
    split
    · rename_i a
      rw [mSt_mem, ih]
      constructor
      · rintro (⟨v, s, h1, h2⟩ | ⟨s, h1, h2⟩)
        · exact ⟨v, s, by omega, h2⟩
        · exact ⟨n, s, by omega, a, h1, h2⟩
      · rintro ⟨v, s, h1, h2, h3, h4⟩
        rcases Nat.lt_or_ge v n with u | u
        · exact Or.inl ⟨v, s, u, h2, h3, h4⟩
        · obtain rfl : v = n := by omega
          exact Or.inr ⟨s, h3, h4⟩
    · rename_i a
      rw [ih]
      refine ⟨fun ⟨v, s, h1, h2⟩ => ⟨v, s, by omega, h2⟩, fun ⟨v, s, h1, h2, h3⟩ => ?_⟩
      by_cases e : v = n
      · rw [e] at h2; exact absurd h2 a
      · exact ⟨v, s, by omega, h2, h3⟩
theorem mSt_len {v : Nat} {L : List Nat} : ∀ n, (mSt pl want cp v L n).length ≤ L.length + n
  | 0 => Nat.le_refl _
  | n + 1 => by
    have ih := mSt_len (v := v) (L := L) n
    rw [mSt]
    split
    · omega
    · rw [List.length_append]; show _ + 1 ≤ _; omega
theorem mVl_len (w : qWf pl) : ∀ n, (mVl pl ask want cp n).length ≤ 9 * n
  | 0 => Nat.le_refl _
  | n + 1 => by
    have ih := mVl_len w n
    have := qSt_le w n
    rw [mVl]
    split
    · have := mSt_len (pl := pl) (want := want) (cp := cp) (v := n) (L := mVl pl ask want cp n) (qSt pl n)
      omega
    · omega
theorem mVl_fam {f : Nat} : f ∈ mVl pl ask want cp (qn pl) ↔ qFam pl ask want cp f := mVl_mem (qn pl)
theorem mV_ok {R : Nat → Bool} : mV (qc pl) (mVl pl ask want cp (qn pl)) (2 ^ qc pl - 1) R ↔ qOkR pl ask want cp R :=
  ⟨fun h f hf => h.2 f (mVl_fam.mpr hf), fun h => ⟨fun c hc _ => by rw [Nat.testBit_two_pow_sub_one, decide_eq_true hc], fun f hf => h f (mVl_fam.mp hf)⟩⟩
theorem qLW_stn (w : qWf pl) (h9 : ∀ c, cp c ≤ 99) (hz : qNz pl ask want cp) : qLW (qc pl) (qStn pl cp) (qOkR pl ask want cp) = qCW pl ask want cp / 2 ^ 25 := by
  obtain ⟨R, h1, _, h3, h4, _⟩ := qCW_spec w h9 hz
  rw [h3]
  exact qLW_eq h1 h4
end MCH
section MFC
variable {x : jX} {d : Nat} {M : jM} {pl : qP} {ask : Nat} {want : Nat → Nat → Nat} {cp : Nat → Nat}
theorem m_findCovers {P : jM → Prop} (hp : mPl (M.1 5) pl) (hs : mSi M pl ask want) (hc : mCp M pl cp) (h : ∀ M', jsame (fun q => q = 0 ∨ q = 11) M M' → M'.2 = M.2 → (∀ k, k ≠ 31 → M'.1 0 k = M.1 0 k) → mq M' (mVl pl ask want cp (qn pl)) → P M') : JC x jtbM mX12_findCovers (d + 2) [.ref (x.2.2.2 0)] M (jV P) := by
  have w := hp.wf
  have c25 := w.c25
  have h6 := w.2.2.2.1
  refine b_X12_findCovers (d := d + 1) ?_
  intro M1 e1
  refine jloop (fun v (M2 : jM) => JW x jtbM mX12_findCovers (d + 2) (jV P) 7 [(0, .ref (x.2.2.2 0)), (1, .int (nI v))] [] M2) (fun v M2 => jsame (fun q => q = 0 ∨ q = 11) M M2 ∧ M2.2 = M.2 ∧ (∀ k, k ≠ 31 → M2.1 0 k = M.1 0 k) ∧ mq M2 (mVl pl ask want cp v)) (qn pl) ?_ ?_ 0 M1 (Nat.zero_le _) ⟨by rw [e1]; exact jsame.I (Or.inl rfl), by rw [e1]; rfl, fun k hk => by rw [e1, jrI_s, pk_un hk], by rw [e1, jrI_s, pk_us]; rfl, Nat.zero_le _, fun k f hk => (by simp [mVl] at hk)⟩
  · rintro M2 ⟨g1, g2, g3, g4⟩
    refine b_X12_findCovers_7 ?_
    rw [(g1 5 (by omega)).1, hp.n]
    exact pk_le (qn pl) (qn pl) (fun _ => h M2 g1 g2 g3 g4) (fun c => absurd c (by omega))
  · rintro v M2 hv ⟨g1, g2, g3, g4⟩ ih
    have h9 := qSt_le w v
    have vl := mVl_len w (ask := ask) (want := want) (cp := cp) v
    refine b_X12_findCovers_7 ?_
    rw [(g1 5 (by omega)).1, hp.n]
    refine pk_le (qn pl) v (fun c => absurd c (by omega)) (fun _ => ?_)
    have done : ∀ M3 : jM, jsame (fun q => q = 0 ∨ q = 11) M M3 → M3.2 = M.2 → (∀ k, k ≠ 31 → M3.1 0 k = M.1 0 k) → mq M3 (mVl pl ask want cp (v + 1)) → JW x jtbM mX12_findCovers (d + 2) (jV P) 7 [(0, .ref (x.2.2.2 0)), (1, .int (nI v + 1))] [] M3 := fun M3 f1 f2 f3 f4 => by
      rw [nI_1]; exact ih M3 ⟨f1, f2, f3, f4⟩
    have r7 : ∀ M3 : jM, jsame (fun q => q = 0 ∨ q = 11) M M3 → M3.1 7 v = jb (ask.testBit v) := fun M3 f1 => by rw [(f1 7 (by omega)).1]; exact hs.1 v hv
    cases ha : ask.testBit v
    · have nx : mVl pl ask want cp (v + 1) = mVl pl ask want cp v := by rw [mVl, if_neg (by rw [ha]; decide)]
      have hp2 : mPl (M2.1 5) pl := by rw [(g1 5 (by omega)).1]; exact hp
      refine b_X12_findCovers_19 (k_mStrips hp2 hv ?_)
      exact ⟨fun _ => done M2 g1 g2 g3 (by rw [nx]; exact g4), fun _ => ⟨v, by omega, rfl, fun _ => done M2 g1 g2 g3 (by rw [nx]; exact g4), fun c => absurd (by rw [r7 M2 g1, ha]; rfl) c⟩⟩
    · have nx : mVl pl ask want cp (v + 1) = mSt pl want cp v (mVl pl ask want cp v) (qSt pl v) := by rw [mVl, if_pos ha]
      refine jloop (fun s (M3 : jM) => JW x jtbM mX12_findCovers (d + 2) (jV P) 19 [(0, .ref (x.2.2.2 0)), (1, .int (nI v)), (2, .int (nI s))] [] M3) (fun s M3 => jsame (fun q => q = 0 ∨ q = 11) M M3 ∧ M3.2 = M.2 ∧ (∀ k, k ≠ 31 → M3.1 0 k = M.1 0 k) ∧ mq M3 (mSt pl want cp v (mVl pl ask want cp v) s)) (qSt pl v) ?_ ?_ 0 M2 (Nat.zero_le _) ⟨g1, g2, g3, g4⟩
      · rintro M3 ⟨f1, f2, f3, f4⟩
        have hp3 : mPl (M3.1 5) pl := by rw [(f1 5 (by omega)).1]; exact hp
        exact b_X12_findCovers_19 (k_mStrips hp3 hv (pk_le (qSt pl v) (qSt pl v) (fun _ => done M3 f1 f2 f3 (by rw [nx]; exact f4)) (fun c => absurd c (by omega))))
      · rintro s M3 hs' ⟨f1, f2, f3, f4⟩ ihs
        have hp3 : mPl (M3.1 5) pl := by rw [(f1 5 (by omega)).1]; exact hp
        have hs3 : mSi M3 pl ask want := by unfold mSi; rw [(f1 7 (by omega)).1, (f1 8 (by omega)).1]; exact hs
        have hc3 : mCp M3 pl cp := by unfold mCp; rw [(f1 9 (by omega)).1]; exact hc
        have ab := qAb_lt (pl := pl) (want := want) (cp := cp) (v := v) (s := s) (qc pl)
        have ab31 : qAb pl want cp v s (qc pl) < 2 ^ 31 := Nat.lt_of_lt_of_le ab (Nat.pow_le_pow_right (by decide) (by omega))
        have sl := mSt_len (pl := pl) (want := want) (cp := cp) (v := v) (L := mVl pl ask want cp v) s
        refine b_X12_findCovers_19 (k_mStrips hp3 hv (pk_le (qSt pl v) s (fun c => absurd c (by omega)) (fun _ => ⟨v, by omega, rfl, ?_⟩)))
        rw [r7 M3 f1, ha]
        refine ⟨fun c => absurd c (by decide), fun _ => k_mAbleIn hp3 hs3 hc3 hv ha hs' ?_⟩
        generalize eF : qAb pl want cp v s (qc pl) = F at ab ab31 ⊢
        refine jloop (fun k (b : Bool) => JW x jtbM mX12_findCovers (d + 2) (jV P) 50 [(0, .ref (x.2.2.2 0)), (1, .int (nI v)), (2, .int (nI s)), (3, .int (nI F)), (4, .int (jb b)), (5, .int (nI k))] [] M3) (fun k b => b = true ↔ ∃ c, c < k ∧ F.testBit c = true ∧ cp c = qLeast pl c) (qc pl) ?_ ?_ 0 false (Nat.zero_le _) ⟨fun q => (by cases q), fun ⟨c, hc, _⟩ => absurd hc (Nat.not_lt_zero _)⟩
        · rintro b hb
          have fr : b = true ↔ qFree pl cp F := hb.trans ⟨fun ⟨c, _, h2, h3⟩ => ⟨c, h2, h3⟩, fun ⟨c, h2, h3⟩ => ⟨c, bit_lt ab h2, h2, h3⟩⟩
          refine b_X12_findCovers_50 (k_mCells hp3 (pk_le (qc pl) (qc pl) (fun _ => ?_) (fun c => absurd c (by omega))))
          obtain ⟨s1, s2, s3⟩ := f4
          rw [jb_0, nI_1]
          refine ⟨fun e => ⟨(mSt pl want cp v (mVl pl ask want cp v) s).length, by omega, s1, ?_⟩, fun e => ?_⟩
          · have nf : ¬ qFree pl cp F := fun q => by have := fr.mpr q; rw [e] at this; cases this
            have nx2 : mSt pl want cp v (mVl pl ask want cp v) (s + 1) = mSt pl want cp v (mVl pl ask want cp v) s ++ [F] := by
              rw [mSt, eF, if_neg (fun q => nf (qFreeB_t.mp q))]
            intro M4 e4 M5 e5
            refine ihs M5 ⟨?_, by rw [e5, e4]; exact f2, fun k hk => by rw [e5, jrI_s, pk_un hk, e4, jrI_n (by omega)]; exact f3 k hk, ?_⟩
            · rw [e5, e4]; exact (f1.tr (jsame.I (Or.inr rfl))).tr (jsame.I (Or.inl rfl))
            · rw [nx2]
              refine ⟨?_, by rw [List.length_append]; show _ + 1 ≤ 54; omega, fun k f hk => ?_⟩
              · rw [e5, jrI_s, pk_us, e4, jrI_n (by omega), s1, List.length_append]; exact nI_1 _
              · rw [e5, jrI_n (by omega), e4, jrI_s]
                rcases app1 hk with ⟨u, v⟩ | ⟨u, v⟩
                · rw [pk_un (by omega)]; exact s3 k f v
                · rw [u, pk_us, v]
          · have bt : b = true := by revert e; cases b <;> simp
            have nx2 : mSt pl want cp v (mVl pl ask want cp v) (s + 1) = mSt pl want cp v (mVl pl ask want cp v) s := by
              rw [mSt, eF, if_pos (qFreeB_t.mpr (fr.mp bt))]
            exact ihs M3 ⟨f1, f2, f3, by rw [nx2]; exact ⟨s1, s2, s3⟩⟩
        · rintro k b hk hb ihk
          have b1 := hc.2 k
          have b2 := w.2.2.2.2.2.2.2.1 k
          refine b_X12_findCovers_50 (k_mCells hp3 (pk_le (qc pl) k (fun c => absurd c (by omega)) (fun _ => ?_)))
          rw [jb_0, nI_1]
          refine ⟨fun e => ihk true ⟨fun _ => ?_, fun _ => rfl⟩, fun e => k_mHas ab31 (by omega) ⟨fun u => ihk false ⟨fun q => (by cases q), fun q => ?_⟩, fun u => ⟨k, by omega, rfl, 28 + k, by omega, by rw [jn28, nI_add], ?_⟩⟩⟩
          · have bt : b = true := by revert e; cases b <;> simp
            obtain ⟨c, c1, c2⟩ := hb.mp bt
            exact ⟨c, by omega, c2⟩
          · obtain ⟨c, c1, c2, c3⟩ := q
            rcases Nat.lt_or_ge c k with u' | u'
            · have := hb.mpr ⟨c, u', c2, c3⟩
              rw [e] at this
              exact this
            · obtain rfl : c = k := by omega
              rw [u] at c2
              cases c2
          · rw [hp3.least (by omega), hc3.1 k hk, nI_eq (by omega) (by omega)]
            refine ⟨fun v => ihk false ⟨fun q => (by cases q), fun q => ?_⟩, fun v => ihk true ⟨fun _ => ⟨k, by omega, u, v⟩, fun _ => rfl⟩⟩
            obtain ⟨c, c1, c2, c3⟩ := q
            rcases Nat.lt_or_ge c k with u' | u'
            · have := hb.mpr ⟨c, u', c2, c3⟩
              rw [e] at this
              exact this
            · obtain rfl : c = k := by omega
              exact absurd c3 v
theorem k_mAll {P : jM → Int32 → Prop} (hp : mPl (M.1 5) pl) (h : P M (nI (2 ^ qc pl - 1))) : JC x jtbM mX12_allCells (d + 1) [.ref (x.2.2.2 0)] M (jI P) := by
  have c25 := hp.wf.c25
  refine b_X12_allCells (k_mCells hp ?_)
  rw [nI_shl1 _ (by omega), show (1 : Int32) = nI 1 from rfl, pk_sub (Nat.two_pow_pos _)]
  exact h
theorem all_lt (C : Nat) : 2 ^ C - 1 < 2 ^ C := Nat.sub_lt (Nat.two_pow_pos C) (by decide)
theorem m_cheapestCost {P : jM → Int32 → Prop} (hp : mPl (M.1 5) pl) (hs : mSi M pl ask want) (hc : mCp M pl cp) (hl : ∀ c, c < qc pl → qLeast pl c ≤ cp c) (hz : qNz pl ask want cp) (h : ∀ M', jsame (fun q => q = 0 ∨ q = 10 ∨ q = 11) M M' → M'.2 = M.2 → (∀ k, k ≠ 31 → k ≠ 32 → M'.1 0 k = M.1 0 k) → mS (qc pl) (mVl pl ask want cp (qn pl)) (qStn pl cp) pl M' → P M' (nI (qCW pl ask want cp / 2 ^ 25))) : JC x jtbM mX12_cheapestCost (d + 28) [.ref (x.2.2.2 0)] M (jI P) := by
  have w := hp.wf
  have c25 := w.c25
  refine b_X12_cheapestCost (d := d + 27) (m_findCovers hp hs hc (fun M1 a1 a2 a3 a4 => ?_))
  have hp1 : mPl (M1.1 5) pl := by rw [(a1 5 (by omega)).1]; exact hp
  refine jloop (fun i (M2 : jM) => JW x jtbM mX12_cheapestCost (d + 28) (jI P) 6 [(0, .ref (x.2.2.2 0)), (1, .int (nI i))] [] M2) (fun i M2 => jsame (fun q => q = 10) M1 M2 ∧ M2.2 = M1.2 ∧ ∀ c, c < i → M2.1 10 c = nI (qStn pl cp c)) (qc pl) ?_ ?_ 0 M1 (Nat.zero_le _) ⟨jsame.rf, rfl, fun c hc => absurd hc (Nat.not_lt_zero _)⟩
  · rintro M2 ⟨g1, g2, g3⟩
    have hp2 : mPl (M2.1 5) pl := by rw [(g1 5 (by omega)).1]; exact hp1
    refine b_X12_cheapestCost_6 (k_mCells hp2 (pk_le (qc pl) (qc pl) (fun _ => ?_) (fun c => absurd c (by omega))))
    refine k_mAll hp2 ?_
    have S2 : mS (qc pl) (mVl pl ask want cp (qn pl)) (qStn pl cp) pl M2 := by
      obtain ⟨s1, s2, s3⟩ := a4
      refine ⟨hp2, rfl, ⟨by rw [(g1 0 (by omega)).1]; exact s1, s2, fun k f hk => by rw [(g1 11 (by omega)).1]; exact s3 k f hk⟩, g3, fun c _ => qStn_le w hc.2 c, fun f hf => ?_⟩
      obtain ⟨v, s, _, _, _, e, _⟩ := mVl_fam.mp hf
      rw [e]; exact qAb_lt _
    refine m_leastCover S2 (all_lt _) (fun M3 r f1 f2 f3 f4 f5 => ?_)
    rw [f4 ⟨_, mV_ok.mpr (ok_all hz)⟩, qLW_cong (fun R => mV_ok), qLW_stn w hc.2 hz]
    refine h M3 (fun q hq => ?_) (f2.trans (g2.trans a2)) (fun k h1 h2 => by rw [f3 k h2, (g1 0 (by omega)).1]; exact a3 k h1) (S2.keep f1 f3)
    have u1 := a1 q (by omega)
    have u2 := g1 q (by omega)
    have u3 := f1 q (by omega)
    exact ⟨u3.1.trans (u2.1.trans u1.1), u3.2.trans (u2.2.trans u1.2)⟩
  · rintro i M2 hi ⟨g1, g2, g3⟩ ih
    have hp2 : mPl (M2.1 5) pl := by rw [(g1 5 (by omega)).1]; exact hp1
    have r9 : M2.1 9 i = nI (cp i) := by rw [(g1 9 (by omega)).1, (a1 9 (by omega)).1]; exact hc.1 i hi
    refine b_X12_cheapestCost_6 (k_mCells hp2 (pk_le (qc pl) i (fun c => absurd c (by omega)) (fun _ => ⟨i, by omega, rfl, 28 + i, by omega, by rw [jn28, nI_add], 53 + i, by omega, by rw [jn53, nI_add], ?_⟩)))
    intro M3 e3
    rw [nI_1]
    refine ih M3 ⟨by rw [e3]; exact g1.tr (jsame.I rfl), by rw [e3]; exact g2, fun c hc' => ?_⟩
    rw [e3, jrI_s]
    by_cases q : c = i
    · rw [q, pk_us, r9, hp2.least (by omega), hp2.price (by omega), pk_sub (hl i hi), pk_mul]; rfl
    · rw [pk_un q]; exact g3 c (by omega)
end MFC
