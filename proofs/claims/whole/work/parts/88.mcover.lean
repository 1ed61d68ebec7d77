/-! the model's covers -/
theorem sP_none2 {C : Nat} {L : List (Nat × Nat)} {wt : Nat → Nat} {ra lo B : Nat} {p : Nat × Nat} (hp : p ∈ L) (h : ∀ c, c < C → p.1.testBit c = true → lo.testBit c = true) : sP C L wt ra lo B B := by
  refine ⟨Nat.le_refl _, Or.inl rfl, fun R hR => ?_⟩
  obtain ⟨c, h1, h2, h3⟩ := hR.2.2 p hp
  have := hR.2.1 c h1 (h c h1 h2)
  rw [h3] at this
  cases this
def mq (M : jM) (L : List Nat) : Prop := M.1 0 31 = nI L.length ∧ L.length ≤ 54 ∧ ∀ k f, L[k]? = some f → M.1 11 k = nI f
def mL (L : List Nat) : List (Nat × Nat) := L.map (fun f => (f, 0))
theorem mL_mem {L : List Nat} {f : Nat} (h : f ∈ L) : (f, 0) ∈ mL L := List.mem_map.mpr ⟨f, h, rfl⟩
theorem mL_of {L : List Nat} {p : Nat × Nat} (h : p ∈ mL L) : p.1 ∈ L := by
  obtain ⟨f, h1, h2⟩ := List.mem_map.mp h
  rw [← h2]; exact h1
def mB (B : Nat) : Int32 := if B = 2 ^ 30 then -1 else nI B
theorem mB_neg {B : Nat} (h : B ≤ 2 ^ 30) : mB B < 0 ↔ B = 2 ^ 30 := by
  unfold mB
  by_cases e : B = 2 ^ 30
  · rw [if_pos e]; exact ⟨fun _ => e, fun _ => by decide⟩
  · rw [if_neg e]; exact ⟨fun q => absurd q (nI_pos (by omega)), fun q => absurd q e⟩
section MCV
variable {x : jX} {d : Nat}
theorem k_mHas {P : jM → Bool → Prop} {M : jM} {n c : Nat} (hn : n < 2 ^ 31) (hc : c < 31) (h : P M (n.testBit c)) : JC x jtbM mX12_has d [.ref (x.2.2.2 0), .int (nI n), .int (nI c)] M (jZ P) := by
  refine b_X12_has ?_
  rw [nI_testBit n hn hc]
  refine ⟨fun q => ?_, fun q => ?_⟩
  · rw [show n.testBit c = false by revert q; cases n.testBit c <;> simp] at h; exact h
  · rw [q] at h; exact h
/-- what stands fast during a search -/
def mS (C : Nat) (L : List Nat) (wt : Nat → Nat) (pl : qP) (M : jM) : Prop := mPl (M.1 5) pl ∧ qc pl = C ∧ mq M L ∧ (∀ c, c < C → M.1 10 c = nI (wt c)) ∧ (∀ c, c < C → wt c ≤ 9801) ∧ ∀ f, f ∈ L → f < 2 ^ C
theorem mS.keep {C : Nat} {L : List Nat} {wt : Nat → Nat} {pl : qP} {M M' : jM} (h : mS C L wt pl M) (h1 : jsame (fun q => q = 0) M M') (h2 : ∀ k, k ≠ 32 → M'.1 0 k = M.1 0 k) : mS C L wt pl M' := by
  obtain ⟨a1, a2, ⟨b1, b2, b3⟩, a4, a5, a6⟩ := h
  refine ⟨by rw [(h1 5 (by omega)).1]; exact a1, a2, ⟨by rw [h2 31 (by omega)]; exact b1, b2, fun k f hk => by rw [(h1 11 (by omega)).1]; exact b3 k f hk⟩, fun c hc => by rw [(h1 10 (by omega)).1]; exact a4 c hc, a5, a6⟩
theorem m_coverS {C : Nat} {L : List Nat} {wt : Nat → Nat} {pl : qP} {P : jM → Prop} {M : jM} {ch al lo B : Nat} (hS : mS C L wt pl M)
    (rec : ∀ k, k < C → al.testBit k = true → ∀ {P : jM → Prop} {M : jM} {al' lo' B : Nat}, mS C L wt pl M → al' < 2 ^ C → lo' < 2 ^ C → (∀ c, al'.testBit c = true → al.testBit c = true ∧ c ≠ k) → (∀ c, c < C → lo'.testBit c = !((ch ||| 2 ^ k).testBit c || al'.testBit c)) → M.1 0 32 = mB B → B ≤ 2 ^ 30 → (∀ M' B', jsame (fun q => q = 0) M M' → M'.2 = M.2 → (∀ k, k ≠ 32 → M'.1 0 k = M.1 0 k) → M'.1 0 32 = mB B' → sP C (mL L) wt (ch ||| 2 ^ k) lo' B B' → P M') → JC x jtbM mX12_cover d [.ref (x.2.2.2 0), .int (nI (ch ||| 2 ^ k)), .int (nI al'), .int (nI (qWg C wt (ch ||| 2 ^ k).testBit))] M (jV P))
    (hch : ch < 2 ^ C) (hal : al < 2 ^ C) (hlo : lo < 2 ^ C) (hd : ∀ c, ¬ (ch.testBit c = true ∧ al.testBit c = true)) (hla : ∀ c, c < C → lo.testBit c = !(ch.testBit c || al.testBit c)) (hB : M.1 0 32 = mB B) (hB30 : B ≤ 2 ^ 30) (h : ∀ M' B', jsame (fun q => q = 0) M M' → M'.2 = M.2 → (∀ k, k ≠ 32 → M'.1 0 k = M.1 0 k) → M'.1 0 32 = mB B' → sP C (mL L) wt ch lo B B' → P M') :
    JC x jtbM mX12_cover (d + 1) [.ref (x.2.2.2 0), .int (nI ch), .int (nI al), .int (nI (qWg C wt ch.testBit))] M (jV P) := by
  obtain ⟨hp, eC, ⟨q1, q2, q3⟩, hw, h98, hL⟩ := id hS
  have c25 : C ≤ 25 := eC ▸ hp.wf.c25
  have p25 : ∀ n, n < 2 ^ C → n < 2 ^ 25 := fun n hn => Nat.lt_of_lt_of_le hn (Nat.pow_le_pow_right (by decide) c25)
  have p31 : ∀ n, n < 2 ^ C → n < 2 ^ 31 := fun n hn => Nat.lt_trans (p25 n hn) (by decide)
  have wb : ∀ R, qWg C wt R ≤ 25 * 9801 := fun R => Nat.le_trans (qWg_bd h98 R) (Nat.mul_le_mul_right _ c25)
  have cost := wb ch.testBit
  have hdis : ∀ c, ¬ (ch.testBit c = true ∧ lo.testBit c = true) := fun c ⟨u, v⟩ => by
    rw [hla c (bit_lt hch u), u] at v
    cases v
  have run : qWg C wt ch.testBit < B → JW x jtbM mX12_cover (d + 1) (jV P) 22 [(0, .ref (x.2.2.2 0)), (1, .int (nI ch)), (2, .int (nI al)), (3, .int (nI (qWg C wt ch.testBit))), (4, .int (-1 : Int32)), (5, .int (0 : Int32))] [] M := fun lt => by
    refine jloop (fun i (ls : Int32) => JW x jtbM mX12_cover (d + 1) (jV P) 22 [(0, .ref (x.2.2.2 0)), (1, .int (nI ch)), (2, .int (nI al)), (3, .int (nI (qWg C wt ch.testBit))), (4, .int ls), (5, .int (nI i))] [] M) (fun i ls => (ls = -1 ∧ ∀ k f, k < i → L[k]? = some f → ¬ f &&& ch = 0) ∨ ∃ j f, ls = nI j ∧ L[j]? = some f ∧ f &&& ch = 0) L.length ?_ ?_ 0 (-1) (Nat.zero_le _) (Or.inl ⟨rfl, fun k f hk => absurd hk (Nat.not_lt_zero _)⟩)
    · rintro ls hI
      refine b_X12_cover_22 ?_
      rw [q1]
      refine pk_le L.length L.length (fun _ => ?_) (fun c => absurd c (by omega))
      rcases hI with ⟨rfl, met⟩ | ⟨j, f, rfl, hj, hf⟩
      · refine ⟨fun c => absurd c (by decide), fun _ => ?_⟩
        intro M1 e1
        refine h M1 (qWg C wt ch.testBit) (by rw [e1]; exact jsame.I rfl) (by rw [e1]; rfl) (fun k hk => by rw [e1, jrI_s, pk_un hk]) (by rw [e1, jrI_s, pk_us]; unfold mB; rw [if_neg (by omega)]) (sP_met hdis (fun p hp => ?_) (by omega))
        have hpm := mL_of hp
        obtain ⟨k, hk⟩ := List.getElem?_of_mem hpm
        obtain ⟨c, hc⟩ := ne0_bit.mp (met k p.1 (List.getElem?_eq_some_iff.mp hk).1 hk)
        rw [Nat.testBit_and, Bool.and_eq_true] at hc
        exact ⟨c, bit_lt hch hc.2, hc.1, hc.2⟩
      · have jl : j < L.length := (List.getElem?_eq_some_iff.mp hj).1
        have fm : f ∈ L := List.mem_of_getElem? hj
        have fC := hL f fm
        refine ⟨fun _ => ?_, fun c => absurd (nI_pos' (by omega)) c⟩
        refine jloop2 (fun i (M1 : jM) (fr : Nat) => JW x jtbM mX12_cover (d + 1) (jV P) 115 [(0, .ref (x.2.2.2 0)), (1, .int (nI ch)), (2, .int (nI al)), (3, .int (nI (qWg C wt ch.testBit))), (4, .int (nI j)), (5, .int (nI fr)), (6, .int (nI i))] [] M1)
          (fun i M1 fr => jsame (fun q => q = 0) M M1 ∧ M1.2 = M.2 ∧ (∀ k, k ≠ 32 → M1.1 0 k = M.1 0 k) ∧ fr < 2 ^ C ∧ (∀ c, fr.testBit c = (al.testBit c && !(decide (c < i) && f.testBit c))) ∧ ∃ tr B1, tr < 2 ^ C ∧ (∀ c, tr.testBit c = (lo.testBit c || (decide (c < i) && (f.testBit c && al.testBit c)))) ∧ M1.1 0 32 = mB B1 ∧ sQ C (mL L) wt ch lo B tr B1) C ?_ ?_ 0 M al (Nat.zero_le _) ⟨jsame.rf, rfl, fun _ _ => rfl, hal, fun c => (by rw [decide_eq_false (Nat.not_lt_zero _)]; simp), lo, B, hlo, fun c => (by rw [decide_eq_false (Nat.not_lt_zero _)]; simp), hB, sQ_0⟩
        · rintro M1 fr ⟨g1, g2, g3, g4, g5, tr, B1, g6, g7, g8, g9⟩
          have hp1 : mPl (M1.1 5) pl := by rw [(g1 5 (by omega)).1]; exact hp
          refine b_X12_cover_115 (k_mCells hp1 ?_)
          rw [eC]
          refine pk_le C C (fun _ => h M1 B1 g1 g2 g3 g8 (sQ_end g9 (mL_mem fm) (fun c hc => ?_))) (fun c => absurd c (by omega))
          have hc' : f.testBit c = true := hc
          have cC := bit_lt fC hc'
          have nch : ch.testBit c = false := by
            cases e : ch.testBit c
            · rfl
            · exact absurd ⟨hc', e⟩ (and0_bit.mp hf c)
          rw [g7, decide_eq_true cC, hc', hla c cC, nch]
          cases al.testBit c <;> rfl
        · rintro i M1 fr hi ⟨g1, g2, g3, g4, g5, tr, B1, g6, g7, g8, g9⟩ ih
          have hp1 : mPl (M1.1 5) pl := by rw [(g1 5 (by omega)).1]; exact hp
          have r11 : M1.1 11 j = nI f := by rw [(g1 11 (by omega)).1]; exact q3 j f hj
          refine b_X12_cover_115 (k_mCells hp1 ?_)
          rw [eC]
          refine pk_le C i (fun c => absurd c (by omega)) (fun _ => ⟨j, by omega, rfl, ?_⟩)
          rw [r11, fa_and]
          refine k_mHas (Nat.lt_of_le_of_lt Nat.and_le_left (p31 _ fC)) (by omega) ?_
          rw [Nat.testBit_and, nI_1]
          refine ⟨fun e => ⟨i, by omega, rfl, ?_⟩, fun e => ?_⟩
          · rw [Bool.and_eq_true] at e
            obtain ⟨e1, e2⟩ := e
            have nch : ch.testBit i = false := by
              cases u : ch.testBit i
              · rfl
              · exact absurd ⟨e1, u⟩ (and0_bit.mp hf i)
            have ntr : tr.testBit i = false := by
              rw [g7, decide_eq_false (Nat.lt_irrefl i), hla i hi, e2, nch]; rfl
            rw [nI_set (by omega), nI_clr (by omega), (g1 10 (by omega)).1, hw i hi, nI_add]
            rw [← qWg_add (C := C) (wt := wt) (R := ch.testBit) (R' := (ch ||| 2 ^ i).testBit) hi nch (by rw [fb_bit_set, decide_eq_true rfl, Bool.or_true]) (fun k _ hk => by rw [fb_bit_set, decide_eq_false hk, Bool.or_false])]
            have cb := clr_bit (c := i) (p31 _ g4)
            have lC : fr &&& (2 ^ i ^^^ (2 ^ 32 - 1)) < 2 ^ C := Nat.lt_of_le_of_lt Nat.and_le_left g4
            generalize fr &&& (2 ^ i ^^^ (2 ^ 32 - 1)) = fr' at cb lC ⊢
            have fb : ∀ c, fr'.testBit c = (al.testBit c && !(decide (c < i + 1) && f.testBit c)) := fun c => by
              rw [cb, g5]
              by_cases q : c = i
              · rw [q, e1, e2, decide_eq_true rfl, decide_eq_true (Nat.lt_succ_self i)]; simp
              · rw [decide_eq_false q, show decide (c < i + 1) = decide (c < i) from decide_eq_decide.mpr (by omega)]; simp
            refine rec i hi e2 (hS.keep g1 g3) lC g6 (fun c hc => ?_) (fun c hc => ?_) g8 (Nat.le_trans g9.1 hB30) (fun M2 B2 f1 f2 f3 f4 f5 => ?_)
            · rw [fb, Bool.and_eq_true] at hc
              refine ⟨hc.1, fun q => ?_⟩
              rw [q, e1, decide_eq_true (Nat.lt_succ_self i)] at hc
              cases hc.2
            · rw [g7, fb_bit_set, fb, hla c hc]
              by_cases q : c = i
              · rw [q, nch, e1, e2, decide_eq_true rfl, decide_eq_false (Nat.lt_irrefl i)]; rfl
              · rw [decide_eq_false q, show decide (c < i + 1) = decide (c < i) from decide_eq_decide.mpr (by omega)]
                have hdc := hd c
                revert hdc
                cases ch.testBit c <;> cases al.testBit c <;> cases f.testBit c <;> cases decide (c < i) <;> simp
            · refine ih M2 fr' ⟨g1.tr f1, f2.trans g2, fun k hk => (f3 k hk).trans (g3 k hk), lC, fb, tr ||| 2 ^ i, B2, set_lt g6 hi, fun c => ?_, f4, sQ_step g9 hi (fun c hc => by rw [g7, hc]; rfl) ntr f5⟩
              rw [fb_bit_set, g7]
              by_cases q : c = i
              · rw [q, e1, e2, decide_eq_true rfl, decide_eq_true (Nat.lt_succ_self i)]; simp
              · rw [decide_eq_false q, show decide (c < i + 1) = decide (c < i) from decide_eq_decide.mpr (by omega)]; simp
          · refine ih M1 fr ⟨g1, g2, g3, g4, fun c => ?_, tr, B1, g6, fun c => ?_, g8, g9⟩
            · rw [g5]
              by_cases q : c = i
              · rw [q, decide_eq_false (Nat.lt_irrefl i), decide_eq_true (Nat.lt_succ_self i)]
                revert e
                cases f.testBit i <;> cases al.testBit i <;> simp
              · rw [show decide (c < i + 1) = decide (c < i) from decide_eq_decide.mpr (by omega)]
            · rw [g7]
              by_cases q : c = i
              · rw [q, e, Bool.and_false, Bool.and_false]
              · rw [show decide (c < i + 1) = decide (c < i) from decide_eq_decide.mpr (by omega)]
    · rintro i ls hi hI ih
      obtain ⟨f, hf, fm⟩ := at_some hi
      have fC := hL f fm
      refine b_X12_cover_22 ?_
      rw [q1]
      refine pk_le L.length i (fun c => absurd c (by omega)) (fun _ => ⟨i, by omega, rfl, ?_⟩)
      rw [q3 i f hf, fa_and, fa_and, nI_eq0 (Nat.lt_of_le_of_lt Nat.and_le_left (p31 _ fC)), nI_eq0 (Nat.lt_of_le_of_lt Nat.and_le_left (p31 _ fC)), nI_1]
      refine ⟨fun e => ⟨fun e2 => ?_, fun e2 => ?_⟩, fun e => ih _ ?_⟩
      · have own : JW x jtbM mX12_cover (d + 1) (jV P) 22 [(0, .ref (x.2.2.2 0)), (1, .int (nI ch)), (2, .int (nI al)), (3, .int (nI (qWg C wt ch.testBit))), (4, .int (nI i)), (5, .int (nI (i + 1)))] [] M := ih _ (Or.inr ⟨i, f, rfl, hf, e⟩)
        refine ⟨fun _ => own, fun c => ?_⟩
        rcases hI with ⟨rfl, _⟩ | ⟨j, g, rfl, hj, hg⟩
        · exact absurd (by decide) c
        · have jl : j < L.length := (List.getElem?_eq_some_iff.mp hj).1
          have gC := hL g (List.mem_of_getElem? hj)
          refine k_mBits (Nat.lt_of_le_of_lt Nat.and_le_left (p25 _ fC)) ⟨j, by omega, rfl, ?_⟩
          rw [q3 j g hj, fa_and]
          refine k_mBits (Nat.lt_of_le_of_lt Nat.and_le_left (p25 _ gC)) ⟨fun _ => ih _ (Or.inr ⟨j, g, rfl, hj, hg⟩), fun _ => own⟩
      · refine h M B jsame.rf rfl (fun _ _ => rfl) hB (sP_none2 (mL_mem fm) (fun c hc hfc => ?_))
        have hfc' : f.testBit c = true := hfc
        have nch : ch.testBit c = false := by
          cases u : ch.testBit c
          · rfl
          · exact absurd ⟨hfc', u⟩ (and0_bit.mp e c)
        have nal : al.testBit c = false := by
          cases u : al.testBit c
          · rfl
          · exact absurd ⟨hfc', u⟩ (and0_bit.mp e2 c)
        rw [hla c hc, nch, nal]; rfl
      · rcases hI with ⟨rfl, met⟩ | hI
        · refine Or.inl ⟨rfl, fun k g hk hg => ?_⟩
          rcases Nat.lt_or_ge k i with u | u
          · exact met k g u hg
          · obtain rfl : k = i := by omega
            rw [hf] at hg
            cases hg
            exact e
        · exact Or.inr hI
  refine b_X12_cover ?_
  rw [hB]
  refine ⟨fun c => run ?_, fun c => ?_⟩
  · rw [mB_neg hB30] at c; omega
  · rw [mB_neg hB30] at c
    have e : mB B = nI B := if_neg c
    rw [e, nI_ltI (by omega) (by omega)]
    refine ⟨run, fun q => h M B jsame.rf rfl (fun _ _ => rfl) hB ⟨Nat.le_refl _, Or.inl rfl, fun R hR => ?_⟩⟩
    have := qWg_le (C := C) (wt := wt) (R := ch.testBit) (R' := R) hR.1
    omega
theorem m_cover {C : Nat} {L : List Nat} {wt : Nat → Nat} {pl : qP} : ∀ r {P : jM → Prop} {M : jM} {ch al lo B : Nat}, mS C L wt pl M → fb_ct al.testBit 25 ≤ r → ch < 2 ^ C → al < 2 ^ C → lo < 2 ^ C → (∀ c, ¬ (ch.testBit c = true ∧ al.testBit c = true)) → (∀ c, c < C → lo.testBit c = !(ch.testBit c || al.testBit c)) → M.1 0 32 = mB B → B ≤ 2 ^ 30 → (∀ M' B', jsame (fun q => q = 0) M M' → M'.2 = M.2 → (∀ k, k ≠ 32 → M'.1 0 k = M.1 0 k) → M'.1 0 32 = mB B' → sP C (mL L) wt ch lo B B' → P M') → JC x jtbM mX12_cover (d + r + 1) [.ref (x.2.2.2 0), .int (nI ch), .int (nI al), .int (nI (qWg C wt ch.testBit))] M (jV P) := by
  intro r
  induction r with
  | zero =>
    intro P M ch al lo B hS hr hch hal hlo hd hla hB hB30 h
    have c25 : C ≤ 25 := hS.2.1 ▸ hS.1.wf.c25
    refine m_coverS hS (fun k hk e => ?_) hch hal hlo hd hla hB hB30 h
    rw [fb_ct_zero.mp (show fb_ct al.testBit 25 = 0 by omega) k (by omega)] at e
    cases e
  | succ r ihr =>
    intro P M ch al lo B hS hr hch hal hlo hd hla hB hB30 h
    have c25 : C ≤ 25 := hS.2.1 ▸ hS.1.wf.c25
    refine m_coverS (d := d + r + 1) hS (fun k hk e P M al' lo' B h1 h2 h3 h4 h5 h6 h7 h8 => ?_) hch hal hlo hd hla hB hB30 h
    have ct : fb_ct al'.testBit 25 ≤ r := by
      have u1 := fb_ct_upd al.testBit false (show k < 25 by omega)
      rw [e] at u1
      have u2 : fb_ct al'.testBit 25 ≤ fb_ct (fun i => if i = k then false else al.testBit i) 25 := fb_ct_sub (fun i _ hi => by
        obtain ⟨v1, v2⟩ := h4 i hi
        rw [if_neg v2]; exact v1)
      have u3 : fb_ct (fun i => if i = k then false else al.testBit i) 25 + 1 = fb_ct al.testBit 25 + 0 := u1
      omega
    refine ihr h1 ct (set_lt hch hk) h2 h3 (fun c ⟨v1, v2⟩ => ?_) h5 h6 h7 h8
    obtain ⟨v3, v4⟩ := h4 c v2
    rw [fb_bit_set, decide_eq_false v4, Bool.or_false] at v1
    exact hd c ⟨v1, v3⟩
/-- sets within the allowed cells -/
def mV (C : Nat) (L : List Nat) (al : Nat) (R : Nat → Bool) : Prop := (∀ c, c < C → R c = true → al.testBit c = true) ∧ ∀ f, f ∈ L → qHit C f R
theorem m_leastCover {C : Nat} {L : List Nat} {wt : Nat → Nat} {pl : qP} {P : jM → Int32 → Prop} {M : jM} {al : Nat} (hS : mS C L wt pl M) (hal : al < 2 ^ C) (h : ∀ M' r, jsame (fun q => q = 0) M M' → M'.2 = M.2 → (∀ k, k ≠ 32 → M'.1 0 k = M.1 0 k) → ((∃ R, mV C L al R) → r = nI (qLW C wt (mV C L al))) → ((¬ ∃ R, mV C L al R) → r = -1) → P M' r) : JC x jtbM mX12_leastCover (d + 27) [.ref (x.2.2.2 0), .int (nI al)] M (jI P) := by
  have c25 : C ≤ 25 := hS.2.1 ▸ hS.1.wf.c25
  refine b_X12_leastCover (d := d + 26) ?_
  intro M1 e1
  have s1 : jsame (fun q => q = 0) M M1 := by rw [e1]; exact jsame.I rfl
  have n1 : ∀ k, k ≠ 32 → M1.1 0 k = M.1 0 k := fun k hk => by rw [e1, jrI_s, pk_un hk]
  have lb : ∀ c, ((2 ^ C - 1) &&& (al ^^^ (2 ^ 32 - 1))).testBit c = (decide (c < C) && !al.testBit c) := fun c => by
    rw [not_bit (Nat.lt_of_le_of_lt (Nat.sub_le _ _) (Nat.lt_of_le_of_lt (Nat.pow_le_pow_right (by decide) c25) (by decide))), Nat.testBit_two_pow_sub_one]
  have ll : (2 ^ C - 1) &&& (al ^^^ (2 ^ 32 - 1)) < 2 ^ C := Nat.lt_of_le_of_lt Nat.and_le_left (Nat.sub_lt (Nat.two_pow_pos C) (by decide))
  generalize (2 ^ C - 1) &&& (al ^^^ (2 ^ 32 - 1)) = lo at lb ll
  have eq : ∀ R, sV C (mL L) 0 lo R ↔ mV C L al R := fun R => by
    constructor
    · rintro ⟨_, h2, h3⟩
      refine ⟨fun c hc hR => ?_, fun f hf => h3 _ (mL_mem hf)⟩
      cases e : al.testBit c
      · have := h2 c hc (by rw [lb, decide_eq_true hc, e]; rfl)
        rw [hR] at this
        cases this
      · rfl
    · rintro ⟨h1, h2⟩
      refine ⟨fun c _ e => (by rw [Nat.zero_testBit] at e; cases e), fun c hc e => ?_, fun p hp => h2 _ (mL_of hp)⟩
      cases u : R c
      · rfl
      · rw [lb, h1 c hc u, Bool.and_eq_true] at e
        cases e.2
  have z0 : qWg C wt (Nat.testBit 0) = 0 := qWg_zero (fun c _ => Nat.zero_testBit c)
  have main := m_cover (x := x) (d := d) (C := C) (L := L) (wt := wt) (pl := pl) 25 (P := fun M2 => P M2 (M2.1 0 32)) (M := M1) (ch := 0) (al := al) (lo := lo) (B := 2 ^ 30) (hS.keep s1 n1) (fb_ct_le _ _) (Nat.two_pow_pos C) hal ll (fun c q => (by rw [Nat.zero_testBit] at q; cases q.1)) (fun c hc => by rw [lb, Nat.zero_testBit, decide_eq_true hc, Bool.true_and, Bool.false_or]) (by rw [e1, jrI_s, pk_us]; rfl) (Nat.le_refl _) (fun M2 B' f1 f2 f3 f4 f5 => ?_)
  · rw [z0] at main
    exact main
  · obtain ⟨b1, b2, b3⟩ := f5
    have wb : ∀ R, qWg C wt R ≤ 25 * 9801 := fun R => Nat.le_trans (qWg_bd hS.2.2.2.2.1 R) (Nat.mul_le_mul_right _ c25)
    refine h M2 _ (s1.tr f1) (f2.trans (by rw [e1]; rfl)) (fun k hk => (f3 k hk).trans (n1 k hk)) (fun ⟨R, hR⟩ => ?_) (fun no => ?_)
    · have v1 := b3 R ((eq R).mpr hR)
      have v2 := wb R
      rcases b2 with b2 | ⟨R', h1, h2⟩
      · omega
      · rw [f4, mB, if_neg (by omega)]
        congr 1
        rw [← h2]
        exact (qLW_eq ((eq R').mp h1) (fun R'' hR'' => by rw [h2]; exact b3 R'' ((eq R'').mpr hR''))).symm
    · rcases b2 with b2 | ⟨R', h1, h2⟩
      · rw [f4, b2]; rfl
      · exact absurd ⟨R', (eq R').mp h1⟩ no
end MCV
