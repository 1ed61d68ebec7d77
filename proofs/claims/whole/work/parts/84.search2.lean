section SR2
variable {x : jX} {d : Nat}
theorem nI_eq0 {n : Nat} (h : n < 2 ^ 31) : nI n = 0 ↔ n = 0 := nI_eq h (by decide)
theorem far_eq : (1152921504606846976 : Int64) = lN (2 ^ 60) := rfl
theorem k_searchS {C : Nat} {L : List (Nat × Nat)} {wt : Nat → Nat} {P : jM → Prop} {M : jM} {ra lo B dep : Nat} (hL : sL C L wt)
    (rec : ∀ cell, cell < C → ra.testBit cell = false → ∀ {P : jM → Prop} {M : jM} {lo B : Nat}, lo < 2 ^ C → (∀ c, ¬ ((ra ||| 2 ^ cell).testBit c = true ∧ lo.testBit c = true)) → rq M L → (∀ c, c < C → M.2 54 c = lN (wt c)) → M.2 55 6 = lN B → B ≤ 2 ^ 60 → (∀ M' B', jsame (fun q => q = 55 ∨ q = 58) M M' → (∀ k, k ≠ 5 → M'.1 55 k = M.1 55 k) → M'.2 55 6 = lN B' → sP C L wt (ra ||| 2 ^ cell) lo B B' → P M') → JC x jtbC mX1_search (d + 2) [.ref (x.2.2.2 55), .ref (x.2.2.2 54), .int (nI (ra ||| 2 ^ cell)), .int (nI lo), .long (lN (qWg C wt (ra ||| 2 ^ cell).testBit)), .int (nI (dep + 1))] M (jV P))
    (hdep : dep ≤ 25) (hra : ra < 2 ^ C) (hlo : lo < 2 ^ C) (hdis : ∀ c, ¬ (ra.testBit c = true ∧ lo.testBit c = true)) (hr : rq M L) (hw : ∀ c, c < C → M.2 54 c = lN (wt c)) (hB : M.2 55 6 = lN B) (hB60 : B ≤ 2 ^ 60) (h : ∀ M' B', jsame (fun q => q = 55 ∨ q = 58) M M' → (∀ k, k ≠ 5 → M'.1 55 k = M.1 55 k) → M'.2 55 6 = lN B' → sP C L wt ra lo B B' → P M') :
    JC x jtbC mX1_search (d + 3) [.ref (x.2.2.2 55), .ref (x.2.2.2 54), .int (nI ra), .int (nI lo), .long (lN (qWg C wt ra.testBit)), .int (nI dep)] M (jV P) := by
  have l1 := hL.1
  have l5 := hL.2.2.2.2
  have c25 : ∀ m, m < 2 ^ C → m < 2 ^ 31 := fun m hm => Nat.lt_of_lt_of_le hm (Nat.pow_le_pow_right (by decide) (by omega))
  have wb : ∀ R, qWg C wt R ≤ 25 * 2 ^ 40 := fun R => Nat.le_trans (qWg_bd l5 R) (Nat.mul_le_mul_right _ l1)
  refine b_X1_search (d := d + 2) ⟨fun c => absurd c (nI_nlt (b := dep) (a := 25) (by omega) (by decide)), fun _ => k_floorOf hL hr hw (fun M1 fl na a1 a2 a3 a4 a5 => ?_)⟩
  have spent := wb ra.testBit
  have M1B : M1.2 55 6 = lN B := by rw [a3]; exact hB
  rw [M1B, lN_add]
  rcases a5 with ⟨rfl, p, hp, p1, p2⟩ | ⟨b1, ⟨dd, rfl⟩, nl, b3⟩
  · rw [pk_lLT (by omega) (by omega)]
    exact ⟨fun c => absurd c (by omega), fun _ => h M1 B a1 a2 M1B (sP_none hL hp p1 p2)⟩
  · rw [pk_lLT (by omega) (by omega), a4, nI_eq0 (c25 _ nl)]
    refine ⟨fun c => ⟨fun n0 => ?_, fun n0 => ?_⟩, fun c => h M1 B a1 a2 M1B (sP_prune (d := dd) (lw := qLt C wt lo) hL (fun p hp q c hc e1 e2 => (qMin_spec (p := fun n => ∃ c, c < C ∧ p.1.testBit c = true ∧ lo.testBit c = false ∧ wt c = n) ⟨_, c, hc, e1, e2, rfl⟩).2 _ ⟨c, hc, e1, e2, rfl⟩) (by omega))⟩
    · rcases b3 with ⟨u, _⟩ | ⟨p, u1, u2, u3, u4⟩
      · exact absurd u n0
      · have nra : ∀ c, na.testBit c = true → ra.testBit c = false := fun c hc => by
          rw [u4, Bool.and_eq_true] at hc
          cases e : ra.testBit c
          · rfl
          · exact absurd ⟨hc.1, e⟩ (and0_bit.mp u2 c)
        have rr : ∀ M2 : jM, jsame (fun q => q = 55 ∨ q = 58) M M2 → (∀ k, k ≠ 5 → M2.1 55 k = M.1 55 k) → rq M2 L ∧ ∀ c, c < C → M2.2 54 c = lN (wt c) := fun M2 m1 m2 => by
          obtain ⟨s1, s2, s3⟩ := hr
          refine ⟨⟨by rw [m2 3 (by omega)]; exact s1, s2, fun k q hq => ?_⟩, fun c hc => by rw [(m1 54 (by omega)).2]; exact hw c hc⟩
          rw [(m1 56 (by omega)).1, (m1 57 (by omega)).1]
          exact s3 k q hq
        refine jloop2 (fun i (M2 : jM) (s : Nat × Nat) => JW x jtbC mX1_search (d + 3) (jV P) 50 [(0, .ref (x.2.2.2 55)), (1, .ref (x.2.2.2 54)), (2, .int (nI ra)), (4, .long (lN (qWg C wt ra.testBit))), (6, .int (nI dep)), (7, .int (nI s.1)), (8, .int (nI s.2)), (9, .int (nI i))] [] M2)
          (fun i M2 s => jsame (fun q => q = 55 ∨ q = 58) M M2 ∧ (∀ k, k ≠ 5 → M2.1 55 k = M.1 55 k) ∧ s.1 < 2 ^ C ∧ s.2 < 2 ^ C ∧ i + fb_ct s.1.testBit 25 ≤ 25 ∧ (∀ c, s.1.testBit c = true → na.testBit c = true) ∧ (∀ c, s.2.testBit c = (lo.testBit c || (na.testBit c && !s.1.testBit c))) ∧ ∃ B1, M2.2 55 6 = lN B1 ∧ sQ C L wt ra lo B s.2 B1) 25 ?_ ?_ 0 M1 (na, lo) (Nat.zero_le _) ?_
        · rintro M2 ⟨lf, tr⟩ hg
          dsimp only at hg ⊢
          obtain ⟨g1, g2, g3, g4, g5, g6, g7, B1, g8, g9⟩ := hg
          have lf0 : ∀ c, lf.testBit c = false := fun c => by
            cases e : lf.testBit c
            · rfl
            · have := bit_lt g3 e
              have := (fb_ct_zero.mp (show fb_ct lf.testBit 25 = 0 by omega)) c (by omega)
              rw [e] at this
              cases this
          refine b_X1_search_50 sC_54 (by decide) (pk_le 25 25 (fun _ => h M2 B1 g1 g2 g8 (sQ_end g9 u1 (fun c hc => ?_))) (fun c => absurd c (by omega)))
          rw [g7, u4, lf0, hc]
          cases lo.testBit c <;> rfl
        · rintro i M2 ⟨lf, tr⟩ hi hg ih
          dsimp only at hg ⊢
          obtain ⟨g1, g2, g3, g4, g5, g6, g7, B1, g8, g9⟩ := hg
          refine b_X1_search_50 sC_54 (by decide) (pk_le 25 i (fun c => absurd c (by omega)) (fun _ => ?_))
          rw [nI_eq0 (c25 _ g3)]
          refine ⟨fun e => h M2 B1 g1 g2 g8 (sQ_end g9 u1 (fun c hc => ?_)), fun e => ?_⟩
          · rw [g7, u4, e, Nat.zero_testBit, hc]
            cases lo.testBit c <;> rfl
          · obtain ⟨r1, r2⟩ := rr M2 g1 g2
            refine k_lightest (wt := wt) l1 g3 e r2 l5 (fun cell hc c1 c2 => ⟨cell, by omega, rfl, ?_⟩)
            have cra := nra cell (g6 cell c1)
            have ctr : tr.testBit cell = false := by
              rw [g7, c1]
              have := g6 cell c1
              rw [u4, Bool.and_eq_true] at this
              have := this.2
              revert this
              cases lo.testBit cell <;> simp
            rw [nI_set (by omega), nI_set (by omega), nI_clr (by omega), r2 cell hc, lN_add, nI_1 dep, nI_1 i]
            rw [← qWg_add (C := C) (wt := wt) (R := ra.testBit) (R' := (ra ||| 2 ^ cell).testBit) hc cra (by rw [fb_bit_set, decide_eq_true rfl, Bool.or_true]) (fun k _ hk => by rw [fb_bit_set, decide_eq_false hk, Bool.or_false])]
            have B1B : B1 ≤ 2 ^ 60 := Nat.le_trans g9.1 hB60
            have trd : ∀ c, ¬ ((ra ||| 2 ^ cell).testBit c = true ∧ tr.testBit c = true) := fun c ⟨v1, v2⟩ => by
              rw [fb_bit_set, Bool.or_eq_true, decide_eq_true_iff] at v1
              rcases v1 with v1 | v1
              · rw [g7, Bool.or_eq_true, Bool.and_eq_true] at v2
                rcases v2 with v2 | v2
                · exact hdis c ⟨v1, v2⟩
                · have := nra c v2.1
                  rw [v1] at this
                  cases this
              · rw [v1, ctr] at v2
                cases v2
            have cb := clr_bit (c := cell) (c25 _ g3)
            have lC : lf &&& (2 ^ cell ^^^ (2 ^ 32 - 1)) < 2 ^ C := Nat.lt_of_le_of_lt Nat.and_le_left g3
            generalize lf &&& (2 ^ cell ^^^ (2 ^ 32 - 1)) = lf' at cb lC ⊢
            refine rec cell hc cra g4 trd r1 r2 g8 B1B (fun M3 B2 f1 f2 f3 f4 => ?_)
            refine ih M3 (lf', tr ||| 2 ^ cell) ⟨g1.tr f1, fun k hk => (f2 k hk).trans (g2 k hk), lC, set_lt g4 hc, ?_, fun c hc => ?_, fun c => ?_, B2, f3, sQ_step g9 hc (fun c hc => by rw [g7, hc]; rfl) ctr f4⟩
            · have := ct_clr (k := 25) cb (by omega) c1
              show i + 1 + fb_ct lf'.testBit 25 ≤ 25
              omega
            · have hc' : lf'.testBit c = true := hc
              rw [cb, Bool.and_eq_true] at hc'
              exact g6 c hc'.1
            · show (tr ||| 2 ^ cell).testBit c = (lo.testBit c || (na.testBit c && !lf'.testBit c))
              rw [fb_bit_set, cb, g7 c]
              by_cases q : c = cell
              · rw [decide_eq_true q, q, g6 cell c1]
                cases lo.testBit cell <;> cases lf.testBit cell <;> rfl
              · rw [decide_eq_false q]
                cases lo.testBit c <;> cases na.testBit c <;> cases lf.testBit c <;> rfl
        · refine ⟨a1, a2, nl, hlo, by have := fb_ct_le na.testBit 25; show 0 + fb_ct na.testBit 25 ≤ 25; omega, fun _ h => h, fun c => ?_, B, M1B, sQ_0⟩
          show lo.testBit c = (lo.testBit c || (na.testBit c && !na.testBit c))
          cases lo.testBit c <;> cases na.testBit c <;> rfl
    · intro M2 e2
      refine h M2 _ (fun q hq => ⟨by rw [e2]; exact (a1 q hq).1, by rw [e2, jrL_n (fun e => hq (Or.inl e))]; exact (a1 q hq).2⟩) (fun k hk => by rw [e2]; exact a2 k hk) (by rw [e2, jrL_s, pk_uLs]) (sP_met hdis (fun p hp => ?_) (by omega))
      have pn : ¬ p.1 &&& ra = 0 := by
        rcases b3 with ⟨_, u⟩ | ⟨q, u1, u2, u3, u4⟩
        · exact u p hp
        · exact absurd n0 u3
      obtain ⟨c, hc⟩ := ne0_bit.mp pn
      rw [Nat.testBit_and, Bool.and_eq_true] at hc
      exact ⟨c, bit_lt (hL.2.1 p hp).1 hc.1, hc.1, hc.2⟩
theorem k_search {C : Nat} {L : List (Nat × Nat)} {wt : Nat → Nat} (hL : sL C L wt) : ∀ r {P : jM → Prop} {M : jM} {ra lo B dep : Nat}, 25 ≤ fb_ct ra.testBit 25 + r → dep ≤ fb_ct ra.testBit 25 → ra < 2 ^ C → lo < 2 ^ C → (∀ c, ¬ (ra.testBit c = true ∧ lo.testBit c = true)) → rq M L → (∀ c, c < C → M.2 54 c = lN (wt c)) → M.2 55 6 = lN B → B ≤ 2 ^ 60 → (∀ M' B', jsame (fun q => q = 55 ∨ q = 58) M M' → (∀ k, k ≠ 5 → M'.1 55 k = M.1 55 k) → M'.2 55 6 = lN B' → sP C L wt ra lo B B' → P M') → JC x jtbC mX1_search (d + r + 3) [.ref (x.2.2.2 55), .ref (x.2.2.2 54), .int (nI ra), .int (nI lo), .long (lN (qWg C wt ra.testBit)), .int (nI dep)] M (jV P) := by
  have l1 := hL.1
  intro r
  induction r with
  | zero =>
    intro P M ra lo B dep hct hdep hra hlo hdis hr hw hB hB60 h
    have d25 := fb_ct_le ra.testBit 25
    have full : ∀ c, c < 25 → ra.testBit c = true := fb_ct_all.mp (by omega)
    exact k_searchS hL (fun cell hc e => by rw [full cell (by omega)] at e; cases e) (by omega) hra hlo hdis hr hw hB hB60 h
  | succ r ihr =>
    intro P M ra lo B dep hct hdep hra hlo hdis hr hw hB hB60 h
    have d25 := fb_ct_le ra.testBit 25
    refine k_searchS (d := d + (r + 1)) hL (fun cell hc e P M lo B h1 h2 h3 h4 h5 h6 h7 => ?_) (by omega) hra hlo hdis hr hw hB hB60 h
    have cs := ct_set (k := 25) (t := cell) (by omega) e
    exact ihr (by omega) (by omega) (set_lt hra hc) h1 h2 h3 h4 h5 h6 h7
theorem k_leastWeight {P : jM → Int64 → Prop} {M : jM} {C fo : Nat} {L : List (Nat × Nat)} {wt : Nat → Nat} (hL : sL C L wt) (hz : ∀ p, p ∈ L → ¬ p.1 = 0) (hr : rq M L) (hfo : M.1 55 0 = nI fo) (hf : fo < 2 ^ C) (hw : ∀ c, c < C → M.2 54 c = lN (wt c)) (h : ∀ M', jsame (fun q => q = 55 ∨ q = 58) M M' → P M' (lN (qLW C wt (sV C L fo 0)))) : JC x jtbC mX1_leastWeight (d + 29) [.ref (x.2.2.2 55), .ref (x.2.2.2 54)] M (jL P) := by
  have l1 := hL.1
  have l5 := hL.2.2.2.2
  have fo31 : fo < 2 ^ 31 := Nat.lt_of_lt_of_le hf (Nat.pow_le_pow_right (by decide) (by omega))
  have wb : ∀ R, qWg C wt R ≤ 25 * 2 ^ 40 := fun R => Nat.le_trans (qWg_bd l5 R) (Nat.mul_le_mul_right _ l1)
  refine b_X1_leastWeight (d := d + 28) ?_
  refine jloop (fun i (s : Int64) => JW x jtbC mX1_leastWeight (d + 29) (jL P) 5 [(0, .ref (x.2.2.2 55)), (1, .ref (x.2.2.2 54)), (2, .long s), (4, .int (nI i))] [] M) (fun i s => s = lN (qWg (min i C) wt fo.testBit)) 25 ?_ ?_ 0 0 (Nat.zero_le _) (by rw [Nat.zero_min]; rfl)
  · rintro _ rfl
    refine b_X1_leastWeight_5 sC_54 (by decide) (pk_le 25 25 (fun _ => ?_) (fun c => absurd c (by omega)))
    intro M1 e1
    rw [Nat.min_eq_right l1, show M1.1 55 0 = nI fo by rw [e1]; exact hfo]
    obtain ⟨s1, s2, s3⟩ := hr
    refine k_search hL 25 (dep := 0) (lo := 0) (B := 2 ^ 60) (by omega) (Nat.zero_le _) hf (Nat.two_pow_pos C) (fun c q => by rw [Nat.zero_testBit] at q; cases q.2) ⟨by rw [e1]; exact s1, s2, fun k p hk => by rw [e1]; exact s3 k p hk⟩ (fun c hc => by rw [e1, jrL_n (by omega)]; exact hw c hc) (by rw [e1, jrL_s, pk_uLs]; exact far_eq) (Nat.le_refl _) (fun M2 B' f1 f2 f3 f4 => ?_)
    rw [f3]
    have all : sV C L fo 0 (fun _ => true) := ⟨fun _ _ _ => rfl, fun c _ q => (by rw [Nat.zero_testBit] at q; cases q), fun p hp => by
      obtain ⟨c, hc⟩ := ne0_bit.mp (hz p hp)
      exact ⟨c, bit_lt (hL.2.1 p hp).1 hc, hc, rfl⟩⟩
    obtain ⟨b1, b2, b3⟩ := f4
    have b4 := b3 _ all
    have b5 := wb (fun _ => true)
    rcases b2 with b2 | ⟨R, hR, eR⟩
    · omega
    · have : qLW C wt (sV C L fo 0) = B' := by
        rw [← eR]
        exact qLW_eq hR (fun R' hR' => by rw [eR]; exact b3 R' hR')
      rw [← this]
      refine h M2 (fun q hq => ?_)
      have := f1 q hq
      rw [e1] at this
      exact ⟨this.1, by rw [this.2, jrL_n (fun e => hq (Or.inl e))]⟩
  · rintro i _ hi rfl ih
    refine b_X1_leastWeight_5 sC_54 (by decide) (pk_le 25 i (fun c => absurd c (by omega)) (fun _ => ?_))
    rw [hfo, nI_testBit fo fo31 (by omega), nI_1]
    refine ⟨fun c => ih _ ?_, fun c => ⟨i, by omega, rfl, ih _ ?_⟩⟩
    · show lN _ + lN 0 = _
      rw [lN_add, Nat.add_zero]
      congr 1
      rcases Nat.lt_or_ge i C with q | q
      · rw [Nat.min_eq_left (by omega), Nat.min_eq_left (by omega)]
        show _ = fb_sm _ (i + 1)
        rw [fb_sm_succ, if_neg c, Nat.add_zero]; rfl
      · rw [Nat.min_eq_right q, Nat.min_eq_right (by omega)]
    · have iC := bit_lt hf c
      rw [hw i iC, lN_add, Nat.min_eq_left (by omega), Nat.min_eq_left (by omega)]
      congr 1
      show _ = fb_sm _ (i + 1)
      rw [fb_sm_succ, if_pos c]; rfl
end SR2
