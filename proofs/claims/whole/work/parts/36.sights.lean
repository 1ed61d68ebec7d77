/-! what is wanted, the caps, and whether it can be kept -/
def qCap (pl : qP) (ask : Nat) (want : Nat → Nat → Nat) (c : Nat) : Nat → Nat
  | 0 => qMost pl c
  | v + 1 => if ask.testBit v then min (qCap pl ask want c v) (want v (qFv pl v c)) else qCap pl ask want c v
def qCp (pl : qP) (ask : Nat) (want : Nat → Nat → Nat) (c : Nat) : Nat := qCap pl ask want c (qn pl)
def qBc (pl : qP) (cp : Nat → Nat) : Nat := qFst (fun c => decide (cp c < qLeast pl c)) (qc pl)
def qBs (pl : qP) (want : Nat → Nat → Nat) (cp : Nat → Nat) (v : Nat) : Nat := qFst (fun s => decide (¬ qG (qw pl) (qh pl) (qSide pl v) s cp (qc pl) = want v s)) (qSt pl v)
def qBv (pl : qP) (ask : Nat) (want : Nat → Nat → Nat) (cp : Nat → Nat) : Nat := qFst (fun v => ask.testBit v && decide (qBs pl want cp v < qSt pl v)) (qn pl)
def qCan (pl : qP) (ask : Nat) (want : Nat → Nat → Nat) (cp : Nat → Nat) : Bool := decide (¬ qBc pl cp < qc pl) && decide (¬ qBv pl ask want cp < qn pl)
/-- what bars: cell, village, strip -/
def qBar (pl : qP) (ask : Nat) (want : Nat → Nat → Nat) (cp : Nat → Nat) (k : Nat) : Int32 :=
  if qBc pl cp < qc pl then (if k = 0 then nI (qBc pl cp) else -1) else if qBv pl ask want cp < qn pl then (if k = 0 then -1 else if k = 1 then nI (qBv pl ask want cp) else nI (qBs pl want cp (qBv pl ask want cp))) else -1
theorem qCap_le {pl : qP} (w : qWf pl) {ask : Nat} {want : Nat → Nat → Nat} (c : Nat) : ∀ v, qCap pl ask want c v ≤ 99
  | 0 => w.2.2.2.2.2.2.1 c
  | v + 1 => by
    have h := qCap_le w (ask := ask) (want := want) c v
    show (if ask.testBit v then min (qCap pl ask want c v) _ else qCap pl ask want c v) ≤ 99
    split
    · exact Nat.le_trans (Nat.min_le_left _ _) h
    · exact h
theorem qCp_le {pl : qP} (w : qWf pl) {ask : Nat} {want : Nat → Nat → Nat} (c : Nat) : qCp pl ask want c ≤ 99 := qCap_le w c _
/-- what Sights holds: who watches, what is wanted -/
def cSi (M : jM) (pl : qP) (ask : Nat) (want : Nat → Nat → Nat) : Prop := M.1 49 6 = nI ask ∧ ask < 64 ∧ (∀ v s, want v s ≤ 99) ∧ ∀ v s, v < qn pl → ask.testBit v = true → s < qSt pl v → M.1 52 (v * 9 + s) = nI (want v s)
def cCp (M : jM) (pl : qP) (cp : Nat → Nat) : Prop := (∀ c, c < qc pl → M.1 50 c = nI (cp c)) ∧ ∀ c, cp c ≤ 99
section KSI
variable {x : jX} {d : Nat} {M : jM} {pl : qP} {ask : Nat} {want : Nat → Nat → Nat} {cp : Nat → Nat}
theorem k_isWatching {P : jM → Bool → Prop} {v : Nat} (hs : M.1 49 6 = nI ask) (ha : ask < 64) (hv : v < 31) (h : P M (ask.testBit v)) : JC x jtbC mX8_isWatching d [.ref (x.2.2.2 49), .int (nI v)] M (jZ P) := by
  refine b_X8_isWatching ?_
  rw [hs, nI_testBit _ (by omega) hv]
  refine ⟨fun c => ?_, fun c => ?_⟩
  · rw [Bool.eq_false_iff.mpr c] at h; exact h
  · rw [c] at h; exact h
theorem k_findCaps {P : jM → Prop} (hp : cPl M 30 pl) (hs : cSi M pl ask want) (h : ∀ M', jsame (fun q => q = 50) M M' → M'.2 = M.2 → cCp M' pl (qCp pl ask want) → P M') : JC x jtbC mX8_findCaps (d + 1) [.ref (x.2.2.2 49), .ref (x.2.2.2 30)] M (jV P) := by
  have h25 := hp.wf.c25
  have h6 := hp.wf.2.2.2.1
  refine b_X8_findCaps ⟨qc pl, hp.c, by omega, by omega, ?_⟩
  rintro M1 rfl
  rw [hp.c]
  refine jloop (fun v (M' : jM) => JW x jtbC mX8_findCaps (d + 1) (jV P) 21 [(0, .ref (x.2.2.2 49)), (1, .ref (x.2.2.2 30)), (2, .int (nI (qc pl))), (3, .int (nI v))] [] M') (fun v M' => jsame (fun q => q = 50) M M' ∧ M'.2 = M.2 ∧ ∀ c, c < qc pl → M'.1 50 c = nI (qCap pl ask want c v)) (qn pl) ?_ ?_ 0 _ (Nat.zero_le _) ⟨jsame.I rfl, rfl, fun c hc => by rw [jrI_s, va_cpy0 hc]; exact hp.most (by omega)⟩
  · rintro M' ⟨g1, g2, g3⟩
    refine b_X8_findCaps_21 ?_
    rw [(g1 30 (by omega)).1, hp.n]
    exact pk_le (qn pl) (qn pl) (fun _ => h M' g1 g2 ⟨g3, fun c => qCp_le hp.wf c⟩) (fun c => absurd c (by omega))
  · rintro v M' hv ⟨g1, g2, g3⟩ ih
    have hp1 : cPl M' 30 pl := hp.keep (fun q q1 q2 => (g1 q (by omega)).1) (by rw [g2])
    refine b_X8_findCaps_21 ?_
    rw [hp1.n]
    refine pk_le (qn pl) v (fun c => absurd c (by omega)) (fun _ => k_isWatching (ask := ask) (by rw [(g1 49 (by omega)).1]; exact hs.1) hs.2.1 (by omega) ⟨fun c => ?_, fun c => ?_⟩)
    · rw [nI_1]
      refine ih M' ⟨g1, g2, fun k hk => ?_⟩
      rw [g3 k hk]
      simp [qCap, c]
    · refine jloop (fun i (M' : jM) => JW x jtbC mX8_findCaps (d + 1) (jV P) 40 [(0, .ref (x.2.2.2 49)), (1, .ref (x.2.2.2 30)), (2, .int (nI (qc pl))), (3, .int (nI v)), (4, .int (nI i))] [] M') (fun i M' => jsame (fun q => q = 50) M M' ∧ M'.2 = M.2 ∧ (∀ c, c < i → M'.1 50 c = nI (qCap pl ask want c (v + 1))) ∧ ∀ c, i ≤ c → c < qc pl → M'.1 50 c = nI (qCap pl ask want c v)) (qc pl) ?_ ?_ 0 M' (Nat.zero_le _) ⟨g1, g2, fun k hk => absurd hk (Nat.not_lt_zero _), fun k _ hk => g3 k hk⟩
      · rintro M2 ⟨k1, k2, k3, k4⟩
        refine b_X8_findCaps_40 (pk_le (qc pl) (qc pl) (fun _ => ?_) (fun c => absurd c (by omega)))
        rw [nI_1]
        exact ih M2 ⟨k1, k2, k3⟩
      · rintro i M2 hi ⟨k1, k2, k3, k4⟩ ihi
        have hp2 : cPl M2 30 pl := hp.keep (fun q q1 q2 => (k1 q (by omega)).1) (by rw [k2])
        refine b_X8_findCaps_40 (pk_le (qc pl) i (fun c => absurd c (by omega)) (fun _ => ⟨v, by omega, rfl, ?_⟩))
        rw [hp2.side hv]
        have hF := qF_lt (hp.wf.2.2.2.2.2.2.2.2.2.1 v) hi
        have h9 := qSt_le hp.wf v
        have hF' : qFv pl v i < qSt pl v := hF
        refine k_stripAt atC5_30 hp2 (hp.wf.2.2.2.2.2.2.2.2.2.1 v) hi ⟨i, by omega, rfl, v * 9 + qFv pl v i, by omega, ?_, ?_⟩
        · rw [jn9, pk_mul]; exact nI_add _ _
        · rw [k4 i (by omega) hi, (k1 52 (by omega)).1, hs.2.2.2 v _ hv c hF']
          have q1 := qCap_le hp.wf (ask := ask) (want := want) i v
          have q2 := hs.2.2.1 v (qFv pl v i)
          refine k_minN (by omega) (by omega) ?_
          rintro M3 rfl
          rw [nI_1]
          refine ihi _ ⟨k1.tr (jsame.I rfl), k2, fun k hk => ?_, fun k hk1 hk2 => ?_⟩
          · rw [jrI_s]
            by_cases z : k = i
            · subst z
              rw [pk_us]
              simp [qCap, c]
            · rw [pk_un z]; exact k3 k (by omega)
          · rw [jrI_s, pk_un (by omega)]; exact k4 k (by omega) hk2
theorem k_wantPromises {P : jM → Prop} {set : Nat} (hset : set < 64) (hp : cPl M 30 pl) (h : ∀ M', jsame (fun q => q = 49 ∨ q = 50 ∨ q = 52) M M' → M'.2 = M.2 → cSi M' pl (set &&& qk pl) (qLine pl) → cCp M' pl (qCp pl (set &&& qk pl) (qLine pl)) → P M') : JC x jtbC mX8_wantPromises (d + 2) [.ref (x.2.2.2 49), .ref (x.2.2.2 30), .int (nI set)] M (jV P) := by
  refine b_X8_wantPromises ⟨by decide, by decide, ?_⟩
  rintro M1 rfl M2 rfl
  have h6 := hp.wf.2.2.2.1
  have h64 := qk_lt hp.wf
  have hp2 : cPl (jrI (jrI M 52 (va_cpy (M.1 36) (M.1 52) 0 0 54)) 49 (upd ((jrI M 52 (va_cpy (M.1 36) (M.1 52) 0 0 54)).1 49) 6 (nI set &&& (jrI M 52 (va_cpy (M.1 36) (M.1 52) 0 0 54)).1 30 4))) 30 pl := hp.keep (fun q q1 q2 => by rw [jrI_n (by omega), jrI_n (by omega)]) rfl
  refine k_findCaps hp2 (ask := set &&& qk pl) (want := qLine pl) ⟨?_, Nat.lt_of_le_of_lt Nat.and_le_left hset, hp.wf.2.2.2.2.2.2.2.2.2.2, fun v s hv hk hs => ?_⟩ (fun M' g1 g2 g3 => ?_)
  · rw [jrI_s, pk_us, jrI_n (by omega), hp.k, fa_and]
  · have h9 := qSt_le hp.wf v
    rw [jrI_n (by omega), jrI_s, va_cpy0 (by omega)]
    rw [Nat.testBit_and] at hk
    exact hp.line hv (by revert hk; cases set.testBit v <;> simp) hs
  · refine h M' ?_ g2 ⟨?_, Nat.lt_of_le_of_lt Nat.and_le_left hset, hp.wf.2.2.2.2.2.2.2.2.2.2, fun v s hv hk hs => ?_⟩ g3
    · intro q hq
      have := g1 q (by omega)
      exact ⟨by rw [this.1, jrI_n (by omega), jrI_n (by omega)], this.2⟩
    · rw [(g1 49 (by omega)).1, jrI_s, pk_us, jrI_n (by omega), hp.k, fa_and]
    · have h9 := qSt_le hp.wf v
      rw [(g1 52 (by omega)).1, jrI_n (by omega), jrI_s, va_cpy0 (by omega)]
      rw [Nat.testBit_and] at hk
      exact hp.line hv (by revert hk; cases set.testBit v <;> simp) hs
theorem pow_all {n v : Nat} (h : v < n) : (2 ^ n - 1).testBit v = true := by simp [Nat.testBit_two_pow_sub_one, h]
theorem k_wantFromAll {P : jM → Prop} {o n : Nat} (so : js jtbC o = (20, n)) (hn : n < 2 ^ 31) (hn54 : 54 ≤ n) (ho : o ≠ 52 ∧ o ≠ 49) (hp : cPl M 30 pl) (hw : ∀ v s, want v s ≤ 99) (hv : ∀ v s, v < qn pl → s < qSt pl v → M.1 o (v * 9 + s) = nI (want v s)) (h : ∀ M', jsame (fun q => q = 49 ∨ q = 50 ∨ q = 52) M M' → M'.2 = M.2 → cSi M' pl (2 ^ qn pl - 1) want → cCp M' pl (qCp pl (2 ^ qn pl - 1) want) → P M') : JC x jtbC mX8_wantFromAll (d + 2) [.ref (x.2.2.2 49), .ref (x.2.2.2 30), .ref (x.2.2.2 o)] M (jV P) := by
  have h6 := hp.wf.2.2.2.1
  have h64 : 2 ^ qn pl ≤ 64 := Nat.pow_le_pow_right (by decide) h6
  have h1 : 1 ≤ 2 ^ qn pl := Nat.one_le_two_pow
  refine b_X8_wantFromAll so hn ⟨by omega, by decide, ?_⟩
  rintro M1 rfl M2 rfl
  have e49 : (1 : Int32) <<< (((jrI M 52 (va_cpy (M.1 o) (M.1 52) 0 0 54)).1 30 3) &&& 31) - 1 = nI (2 ^ qn pl - 1) := by
    rw [jrI_n (by omega), hp.n, nI_shl1 _ (by omega), jn1, pk_sub h1]
  rw [e49]
  have hp2 : cPl (jrI (jrI M 52 (va_cpy (M.1 o) (M.1 52) 0 0 54)) 49 (upd ((jrI M 52 (va_cpy (M.1 o) (M.1 52) 0 0 54)).1 49) 6 (nI (2 ^ qn pl - 1)))) 30 pl := hp.keep (fun q q1 q2 => by rw [jrI_n (by omega), jrI_n (by omega)]) rfl
  refine k_findCaps hp2 (ask := 2 ^ qn pl - 1) (want := want) ⟨by rw [jrI_s, pk_us], by omega, hw, fun v s hv' _ hs => ?_⟩ (fun M' g1 g2 g3 => ?_)
  · have h9 := qSt_le hp.wf v
    rw [jrI_n (by omega), jrI_s, va_cpy0 (by omega)]
    exact hv v s hv' hs
  · refine h M' ?_ g2 ⟨?_, by omega, hw, fun v s hv' _ hs => ?_⟩ g3
    · intro q hq
      have := g1 q (by omega)
      exact ⟨by rw [this.1, jrI_n (by omega), jrI_n (by omega)], this.2⟩
    · rw [(g1 49 (by omega)).1, jrI_s, pk_us]
    · have h9 := qSt_le hp.wf v
      rw [(g1 52 (by omega)).1, jrI_n (by omega), jrI_s, va_cpy0 (by omega)]
      exact hv v s hv' hs
theorem k_lookFromAll {P : jM → Prop} {o n o3 n3 : Nat} {f : Nat → Nat} (hp : cPl M 30 pl) (so : js jtbC o = (20, n)) (hn : n < 2 ^ 31) (s3 : js jtbC o3 = (20, n3)) (hn3 : n3 < 2 ^ 31) (h54 : 54 ≤ n3) (hcn : qc pl ≤ n) (hf : ∀ c, c < qc pl → M.1 o c = nI (f c)) (hb : ∀ c, f c ≤ 99) (ho : o3 ≠ o) (hop : o3 < 30 ∨ 38 ≤ o3)
    (h : ∀ M', jsame (fun q => q = o3) M M' → M'.2 = M.2 → (∀ v s, v < qn pl → s < qSt pl v → M'.1 o3 (v * 9 + s) = nI (qG (qw pl) (qh pl) (qSide pl v) s f (qc pl))) → P M') : JC x jtbC mX5_lookFromAll (d + 2) [.ref (x.2.2.2 30), .ref (x.2.2.2 o), .ref (x.2.2.2 o3)] M (jV P) := by
  have h6 := hp.wf.2.2.2.1
  refine b_X5_lookFromAll ?_
  refine jloop (fun i (M' : jM) => JW x jtbC mX5_lookFromAll (d + 2) (jV P) 2 [(0, .ref (x.2.2.2 30)), (1, .ref (x.2.2.2 o)), (2, .ref (x.2.2.2 o3)), (3, .int (nI i))] [] M') (fun i M' => jsame (fun q => q = o3) M M' ∧ M'.2 = M.2 ∧ (∀ v s, v < i → s < qSt pl v → M'.1 o3 (v * 9 + s) = nI (qG (qw pl) (qh pl) (qSide pl v) s f (qc pl)))) (qn pl) ?_ ?_ 0 M (Nat.zero_le _) ⟨jsame.rf, rfl, fun v s hv => absurd hv (Nat.not_lt_zero _)⟩
  · rintro M' ⟨g1, g2, g3⟩
    refine b_X5_lookFromAll_2 atC5_30 ?_
    rw [(g1 30 (by omega)).1, hp.n]
    exact pk_le (qn pl) (qn pl) (fun _ => h M' g1 g2 g3) (fun c => absurd c (by omega))
  · rintro i M' hi ⟨g1, g2, g3⟩ ih
    have hp1 : cPl M' 30 pl := hp.keep (fun q q1 q2 => (g1 q (by omega)).1) (by rw [g2])
    obtain ⟨w1, w2, w3⟩ := qn_pos hp.wf hi
    have h9 := qSt_le hp.wf i
    have h9' : qS (qw pl) (qh pl) (qSide pl i) ≤ 9 := h9
    refine b_X5_lookFromAll_2 atC5_30 ?_
    rw [hp1.n]
    refine pk_le (qn pl) i (fun c => absurd c (by omega)) (fun _ => ⟨i, by omega, rfl, ?_⟩)
    have e5 : M'.1 (30 + 5) i = nI (qSide pl i) := hp1.side hi
    rw [e5, jn9, pk_mul]
    refine k_lookFrom atC5_30 hp1 so hn s3 hn3 hcn (fun c hc => by rw [(g1 o (fun z => ho z.symm)).1]; exact hf c hc) hb (hp.wf.2.2.2.2.2.2.2.2.2.1 i) ho hop (by omega) w3 ?_
    intro M2 k1 k2 k3 k4
    rw [nI_1]
    refine ih M2 ⟨g1.tr k1, k4.trans g2, fun v s hv hs => ?_⟩
    rcases Nat.lt_or_ge v i with q | q
    · have h9v := qSt_le hp.wf v
      rw [k3 _ (by omega)]
      exact g3 v s q hs
    · obtain rfl : v = i := by omega
      exact k2 s hs
theorem k_wantViews {P : jM → Prop} {o n : Nat} {f : Nat → Nat} (hp : cPl M 30 pl) (so : js jtbC o = (20, n)) (hn : n < 2 ^ 31) (hcn : qc pl ≤ n) (hf : ∀ c, c < qc pl → M.1 o c = nI (f c)) (hb : ∀ c, f c ≤ 99) (ho : 52 ≠ o)
    (h : ∀ M', jsame (fun q => q = 49 ∨ q = 50 ∨ q = 52) M M' → M'.2 = M.2 → cSi M' pl (2 ^ qn pl - 1) (fun v s => qG (qw pl) (qh pl) (qSide pl v) s f (qc pl)) → cCp M' pl (qCp pl (2 ^ qn pl - 1) (fun v s => qG (qw pl) (qh pl) (qSide pl v) s f (qc pl))) → P M') : JC x jtbC mX8_wantViews (d + 3) [.ref (x.2.2.2 49), .ref (x.2.2.2 30), .ref (x.2.2.2 o)] M (jV P) := by
  have h6 := hp.wf.2.2.2.1
  have h64 : 2 ^ qn pl ≤ 64 := Nat.pow_le_pow_right (by decide) h6
  have h1 : 1 ≤ 2 ^ qn pl := Nat.one_le_two_pow
  refine b_X8_wantViews (k_lookFromAll hp so hn sC_52 (by decide) (by decide) hcn hf hb ho (by decide) ?_)
  intro M1 g1 g2 g3
  rintro M2 rfl
  have hp1 : cPl M1 30 pl := hp.keep (fun q q1 q2 => (g1 q (by omega)).1) (by rw [g2])
  have e49 : (1 : Int32) <<< ((M1.1 30 3) &&& 31) - 1 = nI (2 ^ qn pl - 1) := by
    rw [hp1.n, nI_shl1 _ (by omega), jn1, pk_sub h1]
  rw [e49]
  have hp2 : cPl (jrI M1 49 (upd (M1.1 49) 6 (nI (2 ^ qn pl - 1)))) 30 pl := hp1.keep (fun q q1 q2 => by rw [jrI_n (by omega)]) rfl
  have hb2 : ∀ v s, qG (qw pl) (qh pl) (qSide pl v) s f (qc pl) ≤ 99 := fun v s => qG_le hb _
  refine k_findCaps hp2 (ask := 2 ^ qn pl - 1) (want := fun v s => qG (qw pl) (qh pl) (qSide pl v) s f (qc pl)) ⟨by rw [jrI_s, pk_us], by omega, hb2, fun v s hv' _ hs => ?_⟩ (fun M' k1 k2 k3 => ?_)
  · rw [jrI_n (by omega)]
    exact g3 v s hv' hs
  · refine h M' ?_ (k2.trans g2) ⟨?_, by omega, hb2, fun v s hv' _ hs => ?_⟩ k3
    · intro q hq
      have a := k1 q (by omega)
      have b := g1 q (by omega)
      exact ⟨by rw [a.1, jrI_n (by omega), b.1], by rw [a.2]; exact b.2⟩
    · rw [(k1 49 (by omega)).1, jrI_s, pk_us]
    · rw [(k1 52 (by omega)).1, jrI_n (by omega)]
      exact g3 v s hv' hs
theorem k_isSeenByCaps {P : jM → Bool → Prop} {v : Nat} (hp : cPl M 30 pl) (hs : cSi M pl ask want) (hc : cCp M pl cp) (hv : v < qn pl) (ha : ask.testBit v = true)
    (h1 : ∀ M', jsame (fun q => q = 53) M M' → M'.2 = M.2 → qBs pl want cp v = qSt pl v → P M' true)
    (h2 : ∀ M', jsame (fun q => q = 51 ∨ q = 53) M M' → M'.2 = M.2 → qBs pl want cp v < qSt pl v → M'.1 51 0 = M.1 51 0 → M'.1 51 1 = nI v → M'.1 51 2 = nI (qBs pl want cp v) → P M' false) : JC x jtbC mX8_isSeenByCaps (d + 2) [.ref (x.2.2.2 49), .ref (x.2.2.2 30), .int (nI v)] M (jZ P) := by
  have h25 := hp.wf.c25
  have h6 := hp.wf.2.2.2.1
  obtain ⟨w1, w2, w3⟩ := qn_pos hp.wf hv
  have h9 := qSt_le hp.wf v
  have h9' : qS (qw pl) (qh pl) (qSide pl v) ≤ 9 := h9
  refine b_X8_isSeenByCaps ⟨v, by omega, rfl, ?_⟩
  have e5 : M.1 35 v = nI (qSide pl v) := hp.side hv
  rw [e5]
  refine k_lookFrom (a := 0) atC5_30 hp sC_50 (by decide) sC_53 (by decide) (by omega) hc.1 hc.2 (hp.wf.2.2.2.2.2.2.2.2.2.1 v) (by decide) (by decide) (by omega) w3 ?_
  intro M1 g1 g2 g3 g4
  have hp1 : cPl M1 30 pl := hp.keep (fun q q1 q2 => (g1 q (by omega)).1) (by rw [g4])
  refine jloop (fun i (_ : Unit) => JW x jtbC mX8_isSeenByCaps (d + 2) (jZ P) 21 [(0, .ref (x.2.2.2 49)), (1, .ref (x.2.2.2 30)), (2, .int (nI v)), (3, .int (nI i))] [] M1) (fun i _ => ∀ s, s < i → decide (¬ qG (qw pl) (qh pl) (qSide pl v) s cp (qc pl) = want v s) = false) (qSt pl v) ?_ ?_ 0 () (Nat.zero_le _) (fun j hj => absurd hj (Nat.not_lt_zero _))
  · rintro _ hI
    refine b_X8_isSeenByCaps_21 (k_stripsOf atC5_30 hp1 hv (pk_le (qSt pl v) (qSt pl v) (fun _ => ?_) (fun c => absurd c (by omega))))
    exact h1 M1 g1 g4 (qFst_no hI)
  · rintro i _ hi hI ih
    refine b_X8_isSeenByCaps_21 (k_stripsOf atC5_30 hp1 hv (pk_le (qSt pl v) i (fun c => absurd c (by omega)) (fun _ => ⟨i, by omega, rfl, v * 9 + i, by omega, by rw [jn9, pk_mul, nI_add], ?_⟩)))
    have e6 := g2 i hi
    rw [Nat.zero_add] at e6
    rw [e6, (g1 52 (by omega)).1, hs.2.2.2 v i hv ha hi, nI_1]
    have q1 := qG_le (w := qw pl) (h := qh pl) (side := qSide pl v) (s := i) hc.2 (qc pl)
    have q2 := hs.2.2.1 v i
    rw [nI_eq (by omega) (by omega)]
    refine ⟨fun c => ih () (fun j hj => ?_), fun c => ?_⟩
    · rcases Nat.lt_or_ge j i with q | q
      · exact hI j q
      · obtain rfl : j = i := by omega
        simp [c]
    · have e : qBs pl want cp v = i := qFst_at hI (decide_eq_true c) hi
      rintro M2 rfl M3 rfl
      refine h2 _ (fun q hq => ?_) g4 (by rw [e]; exact hi) ?_ ?_ ?_
      · have := g1 q (by omega)
        exact ⟨by rw [jrI_n (by omega), jrI_n (by omega), this.1], this.2⟩
      · simp (disch := omega) only [jrI_s, pk_un, pk_us]; rw [(g1 51 (by omega)).1]
      · simp (disch := omega) only [jrI_s, pk_un, pk_us]
      · simp (disch := omega) only [jrI_s, pk_us]; rw [e]
theorem k_canBeKept {P : jM → Bool → Prop} (hp : cPl M 30 pl) (hs : cSi M pl ask want) (hc : cCp M pl cp) (h : ∀ M', jsame (fun q => q = 51 ∨ q = 53) M M' → M'.2 = M.2 → (∀ k, k < 3 → M'.1 51 k = qBar pl ask want cp k) → P M' (qCan pl ask want cp)) : JC x jtbC mX8_canBeKept (d + 3) [.ref (x.2.2.2 49), .ref (x.2.2.2 30)] M (jZ P) := by
  have h25 := hp.wf.c25
  have h6 := hp.wf.2.2.2.1
  refine b_X8_canBeKept (k_fillI sC_51 (by decide) ?_)
  intro M1 g1 g2 g3
  have hp1 : cPl M1 30 pl := hp.keep (fun q q1 q2 => (g1 q (by omega)).1) (by rw [g2])
  refine jloop (fun i (_ : Unit) => JW x jtbC mX8_canBeKept (d + 3) (jZ P) 10 [(0, .ref (x.2.2.2 49)), (1, .ref (x.2.2.2 30)), (2, .int (nI i))] [] M1) (fun i _ => ∀ c, c < i → decide (cp c < qLeast pl c) = false) (qc pl) ?_ ?_ 0 () (Nat.zero_le _) (fun j hj => absurd hj (Nat.not_lt_zero _))
  · rintro _ hI
    refine b_X8_canBeKept_10 ?_
    rw [hp1.c]
    refine pk_le (qc pl) (qc pl) (fun _ => ?_) (fun c => absurd c (by omega))
    have eb : qBc pl cp = qc pl := qFst_no hI
    refine jloop (fun i (M' : jM) => JW x jtbC mX8_canBeKept (d + 3) (jZ P) 50 [(0, .ref (x.2.2.2 49)), (1, .ref (x.2.2.2 30)), (2, .int (nI i))] [] M') (fun i M' => jsame (fun q => q = 53) M1 M' ∧ M'.2 = M1.2 ∧ ∀ v, v < i → (ask.testBit v && decide (qBs pl want cp v < qSt pl v)) = false) (qn pl) ?_ ?_ 0 M1 (Nat.zero_le _) ⟨jsame.rf, rfl, fun j hj => absurd hj (Nat.not_lt_zero _)⟩
    · rintro M2 ⟨k1, k2, k3⟩
      refine b_X8_canBeKept_50 ?_
      rw [(k1 30 (by omega)).1, hp1.n]
      refine pk_le (qn pl) (qn pl) (fun _ => ?_) (fun c => absurd c (by omega))
      have ev : qBv pl ask want cp = qn pl := qFst_no k3
      have := h M2 (fun q hq => ⟨by rw [(k1 q (by omega)).1, (g1 q (by omega)).1], by rw [(k1 q (by omega)).2, (g1 q (by omega)).2]⟩) (k2.trans g2) (fun k hk => by
        rw [(k1 51 (by omega)).1, g3 k hk]
        simp [qBar, eb, ev])
      simpa [qCan, eb, ev] using this
    · rintro i M2 hi ⟨k1, k2, k3⟩ ih
      have hp2 : cPl M2 30 pl := hp1.keep (fun q q1 q2 => (k1 q (by omega)).1) (by rw [k2])
      have sm : ∀ q, ¬ (q = 51 ∨ q = 53) → M2.1 q = M.1 q := fun q hq => by rw [(k1 q (by omega)).1, (g1 q (by omega)).1]
      have hs2 : cSi M2 pl ask want := ⟨by rw [sm 49 (by omega)]; exact hs.1, hs.2.1, hs.2.2.1, fun v s a b c => by rw [sm 52 (by omega)]; exact hs.2.2.2 v s a b c⟩
      have hc2 : cCp M2 pl cp := ⟨fun c hcc => by rw [sm 50 (by omega)]; exact hc.1 c hcc, hc.2⟩
      refine b_X8_canBeKept_50 ?_
      rw [hp2.n, nI_1]
      refine pk_le (qn pl) i (fun c => absurd c (by omega)) (fun _ => k_isWatching hs2.1 hs2.2.1 (by omega) ⟨fun c => ?_, fun c => ?_⟩)
      · refine ih M2 ⟨k1, k2, fun j hj => ?_⟩
        rcases Nat.lt_or_ge j i with q | q
        · exact k3 j q
        · obtain rfl : j = i := by omega
          rw [c]; rfl
      · refine k_isSeenByCaps hp2 hs2 hc2 hi c (fun M3 t1 t2 t3 => ?_) (fun M3 t1 t2 t3 t4 t5 t6 => ?_)
        · refine ⟨fun _ => ih M3 ⟨k1.tr t1, t2.trans k2, fun j hj => ?_⟩, fun z => by cases z⟩
          rcases Nat.lt_or_ge j i with q | q
          · exact k3 j q
          · obtain rfl : j = i := by omega
            rw [decide_eq_false (by omega), Bool.and_false]
        · refine ⟨fun z => (by cases z), fun _ => ?_⟩
          have ev : qBv pl ask want cp = i := qFst_at k3 (by rw [c, decide_eq_true t3]; rfl) hi
          have := h M3 (fun q hq => ⟨by rw [(t1 q hq).1, sm q hq], by rw [(t1 q hq).2, (k1 q (by omega)).2, (g1 q (by omega)).2]⟩) (t2.trans (k2.trans g2)) (fun k hk => by
            have e0 : ¬ qBc pl cp < qc pl := by omega
            rcases (show k = 0 ∨ k = 1 ∨ k = 2 by omega) with rfl | rfl | rfl
            · rw [t4, (k1 51 (by omega)).1, g3 0 (by omega)]
              simp [qBar, e0, ev, hi]
            · rw [t5]
              simp [qBar, e0, ev, hi]
            · rw [t6]
              simp [qBar, e0, ev, hi])
          simpa [qCan, eb, ev, hi] using this
  · rintro i _ hi hI ih
    refine b_X8_canBeKept_10 ?_
    rw [hp1.c]
    refine pk_le (qc pl) i (fun c => absurd c (by omega)) (fun _ => ⟨i, by omega, rfl, ?_⟩)
    have e1 : M1.1 32 i = nI (qLeast pl i) := hp1.least (by omega)
    rw [e1, (g1 50 (by omega)).1, hc.1 i hi, nI_1]
    have q1 := hc.2 i
    have q2 := hp.wf.2.2.2.2.2.2.2.1 i
    refine pk_le (qLeast pl i) (cp i) (fun c => ih () (fun j hj => ?_)) (fun c => ?_)
    · rcases Nat.lt_or_ge j i with q | q
      · exact hI j q
      · obtain rfl : j = i := by omega
        exact decide_eq_false (by omega)
    · rintro M2 rfl
      have e : qBc pl cp = i := qFst_at hI (decide_eq_true c) hi
      have := h (jrI M1 51 (upd (M1.1 51) 0 (nI i))) (fun q hq => ⟨by rw [jrI_n (by omega), (g1 q (by omega)).1], (g1 q (by omega)).2⟩) g2 (fun k hk => by
        rw [jrI_s]
        by_cases z : k = 0
        · rw [z, pk_us]; simp [qBar, e, hi]
        · rw [pk_un z, g3 k hk]; simp [qBar, e, hi, z])
      simpa [qCan, e, hi] using this
end KSI
