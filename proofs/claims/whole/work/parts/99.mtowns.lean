/-! towns of the model -/
def mSl (M : jM) (L : List (Nat × Nat)) : Prop := ∀ i p, L[i]? = some p → M.1 18 i = nI p.1 ∧ M.1 19 i = nI p.2
def lsF (pl : qP) (want : Nat → Nat → Nat) (cp : Nat → Nat) (L : List (Nat × Nat)) (i : Nat) : Nat := qAb pl want cp (L.getD i (0, 0)).1 (L.getD i (0, 0)).2 (qc pl)
theorem lsF_at {pl : qP} {want : Nat → Nat → Nat} {cp : Nat → Nat} {L : List (Nat × Nat)} {i : Nat} {p : Nat × Nat} (h : L[i]? = some p) : lsF pl want cp L i = qAb pl want cp p.1 p.2 (qc pl) := by
  unfold lsF
  rw [List.getD_eq_getElem?_getD, h]; rfl
noncomputable def tG (pl : qP) (cp : Nat → Nat) (U : Nat → Bool) (c : Nat) : Nat := if cp c < qLeast pl c then 0 else (cp c - qLeast pl c) + (if U c then 0 else 1)
noncomputable def tGp (pl : qP) (cp : Nat → Nat) (U : Nat → Bool) : Nat → Nat
  | 0 => 1
  | c + 1 => tGp pl cp U c * tG pl cp U c
theorem tGp_N0 {pl : qP} {cp : Nat → Nat} {U : Nat → Bool} : ∀ {n : Nat}, (∀ c, c < n → qLeast pl c ≤ cp c) → tGp pl cp U n = tN0 (fun c => cp c - qLeast pl c) U n
  | 0, _ => rfl
  | n + 1, h => by
    rw [tGp, tN0, tGp_N0 (fun c hc => h c (by omega)), tG, if_neg (by have := h n (by omega); omega)]
theorem tGp_0 {pl : qP} {cp : Nat → Nat} {U : Nat → Bool} {c : Nat} (h : cp c < qLeast pl c) : ∀ {n : Nat}, c < n → tGp pl cp U n = 0
  | 0, hn => absurd hn (Nat.not_lt_zero _)
  | n + 1, hn => by
    rw [tGp]
    by_cases e : c = n
    · rw [← e, tG, if_pos h, Nat.mul_zero]
    · rw [tGp_0 h (by omega), Nat.zero_mul]
section MTW
variable {x : jX} {d : Nat} {M : jM} {pl : qP} {ask : Nat} {want : Nat → Nat → Nat} {cp : Nat → Nat}
theorem m_without {P : jM → Int64 → Prop} {L : List (Nat × Nat)} {some_ : Nat} (hp : mPl (M.1 5) pl) (hs : mSi M pl ask want) (hc : mCp M pl cp) (hle : ∀ v, v < qn pl → ask.testBit v = true → ∀ c, c < qc pl → cp c ≤ want v (qFv pl v c)) (hL : mSl M L) (hl : L.length ≤ 16) (hm : ∀ p, p ∈ L → p.1 < qn pl ∧ ask.testBit p.1 = true ∧ p.2 < qSt pl p.1) (hsome : some_ < 2 ^ 16) (h : P M (lN (tGp pl cp (uF (lsF pl want cp L) L.length some_) (qc pl) % 1000007))) : JC x jtbM mX12_townsWithout (d + 1) [.ref (x.2.2.2 0), .int (nI some_), .int (nI L.length)] M (jL P) := by
  have w := hp.wf
  have c25 := w.c25
  have h6 := w.2.2.2.1
  refine b_X12_townsWithout ?_
  refine jloop (fun c (v : Int64) => JW x jtbM mX12_townsWithout (d + 1) (jL P) 5 [(0, .ref (x.2.2.2 0)), (1, .int (nI some_)), (2, .int (nI L.length)), (3, .long v), (5, .int (nI c))] [] M) (fun c v => v = lN (tGp pl cp (uF (lsF pl want cp L) L.length some_) c % 1000007)) (qc pl) ?_ ?_ 0 1 (Nat.zero_le _) rfl
  · rintro _ rfl
    exact b_X12_townsWithout_5 (k_mCells hp (pk_le (qc pl) (qc pl) (fun _ => h) (fun c => absurd c (by omega))))
  · rintro c _ hcc rfl ih
    have cp9 := hc.2 c
    have ls9 := w.2.2.2.2.2.2.2.1 c
    refine b_X12_townsWithout_5 (k_mCells hp (pk_le (qc pl) c (fun u => absurd u (by omega)) (fun _ => ⟨c, by omega, rfl, ?_⟩)))
    rw [hc.1 c hcc]
    have start : nI (cp c) = (if (false : Bool) then nI (cp c) - (1 : Int32) else nI (cp c)) := rfl
    rw [start]
    refine jloop (fun i (hb : Bool) => JW x jtbM mX12_townsWithout (d + 1) (jL P) 26 [(0, .ref (x.2.2.2 0)), (1, .int (nI some_)), (2, .int (nI L.length)), (3, .long (lN (tGp pl cp (uF (lsF pl want cp L) L.length some_) c % 1000007))), (5, .int (nI c)), (6, .int (if hb then nI (cp c) - (1 : Int32) else nI (cp c))), (7, .int (nI i))] [] M) (fun i hb => hb = true ↔ ∃ i', i' < i ∧ some_.testBit i' = true ∧ (lsF pl want cp L i').testBit c = true) L.length ?_ ?_ 0 false (Nat.zero_le _) ⟨fun u => (by cases u), fun ⟨i', hi', _⟩ => absurd hi' (Nat.not_lt_zero _)⟩
    · rintro hb hI
      have eU : uF (lsF pl want cp L) L.length some_ c = hb := by
        cases hb
        · cases e : uF (lsF pl want cp L) L.length some_ c
          · rfl
          · exact absurd (hI.mpr (qB_t.mp e)) (by decide)
        · exact qB_t.mpr (hI.mp rfl)
      refine b_X12_townsWithout_26 (pk_le L.length L.length (fun _ => ⟨28 + c, by omega, by rw [jn28, nI_add], ?_⟩) (fun u => absurd u (by omega)))
      rw [hp.least (by omega)]
      have val : (if (0 : Int32) < ((if hb then nI (cp c) - (1 : Int32) else nI (cp c)) - nI (qLeast pl c)) + (1 : Int32) then ((if hb then nI (cp c) - (1 : Int32) else nI (cp c)) - nI (qLeast pl c)) + (1 : Int32) else 0) = nI (tG pl cp (uF (lsF pl want cp L) L.length some_) c) := by
        unfold tG
        rw [eU]
        have one : (1 : Int32) = nI 1 := rfl
        have eI : (((if hb then nI (cp c) - (1 : Int32) else nI (cp c)) - nI (qLeast pl c)) + (1 : Int32)).toInt = (cp c : Int) - qLeast pl c + (if hb then 0 else 1) := by
          have tc := nI_toInt (n := cp c) (by omega)
          have tl := nI_toInt (n := qLeast pl c) (by omega)
          have t1 : (1 : Int32).toInt = 1 := by decide
          cases hb
          · show ((nI (cp c) - nI (qLeast pl c)) + (1 : Int32)).toInt = _
            have s1 := pk_sub_toInt (a := cp c) (b := qLeast pl c) (by omega) (by omega)
            rw [fb_addI (by omega) (by omega), s1, t1]; rfl
          · show ((nI (cp c) - (1 : Int32) - nI (qLeast pl c)) + (1 : Int32)).toInt = _
            have s0 := pk_sub_toInt (a := cp c) (b := 1) (by omega) (by omega)
            have s0' : (nI (cp c) - (1 : Int32)).toInt = (cp c : Int) - 1 := s0
            have s1 : (nI (cp c) - (1 : Int32) - nI (qLeast pl c)).toInt = (cp c : Int) - 1 - qLeast pl c := by rw [fb_subI (by omega) (by omega), s0', tl]
            rw [fb_addI (by omega) (by omega), s1, t1]
            show _ = (cp c : Int) - qLeast pl c + 0
            omega
        generalize ((if hb then nI (cp c) - (1 : Int32) else nI (cp c)) - nI (qLeast pl c)) + (1 : Int32) = V at eI ⊢
        have z0 : (0 : Int32).toInt = 0 := by decide
        apply Int32.toInt_inj.mp
        by_cases lt : cp c < qLeast pl c
        · rw [if_pos lt, if_neg (by rw [Int32.lt_iff_toInt_lt, z0, eI]; cases hb <;> simp <;> omega)]
          rfl
        · rw [if_neg lt]
          have tg : (nI (cp c - qLeast pl c + (if hb then 0 else 1))).toInt = ((cp c - qLeast pl c + (if hb then 0 else 1) : Nat) : Int) := nI_toInt (by cases hb <;> simp <;> omega)
          rw [tg]
          by_cases pos : (0 : Int32) < V
          · rw [if_pos pos, eI]
            cases hb <;> simp <;> omega
          · rw [if_neg pos, z0]
            rw [Int32.lt_iff_toInt_lt, z0, eI] at pos
            revert pos
            cases hb <;> simp <;> omega
      refine k_max ?_
      rw [val]
      have g100 : tG pl cp (uF (lsF pl want cp L) L.length some_) c ≤ 100 := by
        unfold tG
        split
        · omega
        · split <;> omega
      have ml := Nat.mod_lt (tGp pl cp (uF (lsF pl want cp L) L.length some_) c) (show 0 < 1000007 by decide)
      rw [nI_l (by omega), lN_mul, lmod, pk_lRem (Nat.lt_of_le_of_lt (Nat.mul_le_mul (Nat.le_of_lt ml) g100) (by decide)) (by decide) (by decide), nI_1]
      refine ih _ ?_
      rw [tGp]
      congr 1
      rw [Nat.mul_mod, Nat.mod_mod, ← Nat.mul_mod]
    · rintro i hb hi hI ihi
      obtain ⟨p, hp1, hp2⟩ := at_some hi
      obtain ⟨m1, m2, m3⟩ := hm p hp2
      obtain ⟨r18, r19⟩ := hL i p hp1
      have h9 := qSt_le w p.1
      have sd := w.2.2.2.2.2.2.2.2.2.1 p.1
      have fl := qF_lt (w := qw pl) (h := qh pl) sd hcc
      have h9' : qS (qw pl) (qh pl) (qSide pl p.1) ≤ 9 := h9
      have mem : (lsF pl want cp L i).testBit c = true ↔ qFv pl p.1 c = p.2 ∧ cp c = want p.1 p.2 := by
        rw [lsF_at hp1, qAb_bit, decide_eq_true hcc, Bool.true_and, decide_eq_true_iff]
      have stay : (some_.testBit i = true → ¬ (qFv pl p.1 c = p.2 ∧ cp c = want p.1 p.2)) → (hb = true ↔ ∃ i', i' < i + 1 ∧ some_.testBit i' = true ∧ (lsF pl want cp L i').testBit c = true) := fun no => by
        rw [hI]
        refine ⟨fun ⟨i', a1, a2⟩ => ⟨i', by omega, a2⟩, fun ⟨i', a1, a2, a3⟩ => ?_⟩
        rcases Nat.lt_or_ge i' i with u | u
        · exact ⟨i', u, a2, a3⟩
        · obtain rfl : i' = i := by omega
          exact absurd (mem.mp a3) (no a2)
      refine b_X12_townsWithout_26 (pk_le L.length i (fun u => absurd u (by omega)) (fun _ => ?_))
      refine k_mHas (Nat.lt_trans hsome (by decide)) (by omega) ?_
      rw [nI_1]
      refine ⟨fun nb => ihi hb (stay (fun q => by rw [nb] at q; cases q)), fun yb => ⟨i, by omega, rfl, 78 + p.1, by omega, by rw [r18, jn78, nI_add], ?_⟩⟩
      rw [hp.side m1]
      refine k_mStripOf hp sd hcc ?_
      rw [r19, nI_eq (by omega) (by omega)]
      refine ⟨fun ns => ihi hb (stay (fun _ q => ns q.1)), fun ys => ⟨p.1 * 9 + p.2, by omega, by rw [r18, jn9, pk_mul, nI_add, Nat.mul_comm 9 p.1], ?_⟩⟩
      have wn := hs.2.1 p.1 p.2
      rw [hs.2.2 p.1 p.2 m1 m2 m3]
      refine k_min ?_
      have cw : cp c ≤ want p.1 p.2 := by
        have := hle p.1 m1 m2 c hcc
        have e : qFv pl p.1 c = p.2 := ys
        rw [e] at this
        exact this
      have tw : (nI (want p.1 p.2) - (1 : Int32)).toInt = (want p.1 p.2 : Int) - 1 := pk_sub_toInt (a := want p.1 p.2) (b := 1) (by omega) (by omega)
      have tc : (nI (cp c) - (1 : Int32)).toInt = (cp c : Int) - 1 := pk_sub_toInt (a := cp c) (b := 1) (by omega) (by omega)
      have tc0 := nI_toInt (n := cp c) (by omega)
      by_cases eq : cp c = want p.1 p.2
      · have fin : (if nI (want p.1 p.2) - (1 : Int32) < (if hb then nI (cp c) - (1 : Int32) else nI (cp c)) then nI (want p.1 p.2) - (1 : Int32) else (if hb then nI (cp c) - (1 : Int32) else nI (cp c))) = (if (true : Bool) then nI (cp c) - (1 : Int32) else nI (cp c)) := by
          rw [← eq]
          cases hb
          · show (if nI (cp c) - (1 : Int32) < nI (cp c) then nI (cp c) - (1 : Int32) else nI (cp c)) = nI (cp c) - (1 : Int32)
            exact if_pos (by rw [Int32.lt_iff_toInt_lt, tc, tc0]; omega)
          · show (if nI (cp c) - (1 : Int32) < nI (cp c) - (1 : Int32) then nI (cp c) - (1 : Int32) else nI (cp c) - (1 : Int32)) = nI (cp c) - (1 : Int32)
            exact ite_self _
        rw [fin]
        exact ihi true ⟨fun _ => ⟨i, by omega, yb, mem.mpr ⟨ys, eq⟩⟩, fun _ => rfl⟩
      · have fin : (if nI (want p.1 p.2) - (1 : Int32) < (if hb then nI (cp c) - (1 : Int32) else nI (cp c)) then nI (want p.1 p.2) - (1 : Int32) else (if hb then nI (cp c) - (1 : Int32) else nI (cp c))) = (if hb then nI (cp c) - (1 : Int32) else nI (cp c)) := by
          refine if_neg ?_
          rw [Int32.lt_iff_toInt_lt, tw]
          cases hb
          · show ¬ ((want p.1 p.2 : Int) - 1 < (nI (cp c)).toInt)
            rw [tc0]; clear hI stay; omega
          · show ¬ ((want p.1 p.2 : Int) - 1 < (nI (cp c) - (1 : Int32)).toInt)
            rw [tc]; omega
        rw [fin]
        exact ihi hb (stay (fun _ q => eq q.2))
end MTW
section MTX
variable {x : jX} {d : Nat} {M : jM} {z : qZ}
theorem towns_val {pl : qP} (w : qWf pl) {set : Nat} (hsp : qSP pl set (qn pl) ≤ 16) : tAc (fun s => tGp pl (pCp pl set) (uF (lsF pl (qLine pl) (pCp pl set) (sLs pl (pAsk pl set) (qn pl))) (sLs pl (pAsk pl set) (qn pl)).length s) (qc pl)) (2 ^ (sLs pl (pAsk pl set) (qn pl)).length) % 1000007 = if pCan pl set then pCt pl set % 1000007 else 0 := by
  have hlen : (sLs pl (pAsk pl set) (qn pl)).length = qSP pl set (qn pl) := sLs_len _
  have hmem : ∀ p, p ∈ sLs pl (pAsk pl set) (qn pl) ↔ p.1 < qn pl ∧ (pAsk pl set).testBit p.1 = true ∧ p.2 < qSt pl p.1 := fun p => sLs_mem _
  generalize sLs pl (pAsk pl set) (qn pl) = L at *
  have at' : ∀ i, i < L.length → ∃ p, p ∈ L ∧ lsF pl (qLine pl) (pCp pl set) L i = qAb pl (qLine pl) (pCp pl set) p.1 p.2 (qc pl) := fun i hi => by
    obtain ⟨p, p1, p2⟩ := at_some hi
    exact ⟨p, p2, lsF_at p1⟩
  by_cases lo : ∀ c, c < qc pl → qLeast pl c ≤ pCp pl set c
  · have e1 : ∀ s, tGp pl (pCp pl set) (uF (lsF pl (qLine pl) (pCp pl set) L) L.length s) (qc pl) = tN0 (fun c => pCp pl set c - qLeast pl c) (fun c => (fun _ => false) c || uF (lsF pl (qLine pl) (pCp pl set) L) L.length s c) (qc pl) := fun s => by
      rw [tGp_N0 lo]
      exact tN0_cong (fun c _ => (Bool.false_or _).symm)
    have ie := in_ex (b := fun c => pCp pl set c - qLeast pl c) (n := qc pl) (F := lsF pl (qLine pl) (pCp pl set) L) L.length (by omega) (fun i hi => by
      obtain ⟨p, _, e⟩ := at' i hi
      rw [e]; exact qAb_lt _) (fun _ => false)
    have := tAc_nat (T := fun s => tGp pl (pCp pl set) (uF (lsF pl (qLine pl) (pCp pl set) L) L.length s) (qc pl)) (n := 2 ^ L.length) (X := tX (fun c => pCp pl set c - qLeast pl c) (qc pl) (lsF pl (qLine pl) (pCp pl set) L) L.length (fun _ => false)) (by
      rw [← ie]
      exact fb_si_cong (fun s _ => by rw [e1]))
    rw [this]
    cases cn : pCan pl set
    · rw [if_neg (by decide)]
      have z0 : tX (fun c => pCp pl set c - qLeast pl c) (qc pl) (lsF pl (qLine pl) (pCp pl set) L) L.length (fun _ => false) = 0 := by
        have nc : ¬ pCan pl set = true := by rw [cn]; decide
        unfold pCan at nc
        rw [qCan_iff] at nc
        have : ∃ v s, v < qn pl ∧ (pAsk pl set).testBit v = true ∧ s < qSt pl v ∧ ¬ qG (qw pl) (qh pl) (qSide pl v) s (pCp pl set) (qc pl) = qLine pl v s := by
          apply Classical.byContradiction
          intro no
          refine nc ⟨lo, fun v hv ha s hs => ?_⟩
          apply Classical.byContradiction
          intro ne
          exact no ⟨v, s, hv, ha, hs, ne⟩
        obtain ⟨v, s, v1, v2, v3, v4⟩ := this
        have ab0 := (able_iff w v1 v3 (fun c hc => qCap_ask (pl := pl) (want := qLine pl) (c := c) v2 v1)).mpr v4
        obtain ⟨i, hi⟩ := List.getElem?_of_mem ((hmem (v, s)).mpr ⟨v1, v2, v3⟩)
        have il := (List.getElem?_eq_some_iff.mp hi).1
        refine tS_no (fun R _ h => h.2 i il ?_)
        rw [lsF_at hi]
        show qAb pl (qLine pl) (pCp pl set) v s (qc pl) &&& R = 0
        rw [show qAb pl (qLine pl) (pCp pl set) v s (qc pl) = 0 from ab0, Nat.zero_and]
      rw [z0]
    · rw [if_pos rfl]
      congr 1
      refine tS_cong (fun R hR => ?_)
      by_cases all : ∀ i, i < L.length → ¬ lsF pl (qLine pl) (pCp pl set) L i &&& R = 0
      · right
        refine ⟨fun _ f hf => ?_, fun _ => ⟨fun c _ u => (by cases u), all⟩⟩
        obtain ⟨v, s, v1, v2, v3, v4, _⟩ := hf
        obtain ⟨i, hi⟩ := List.getElem?_of_mem ((hmem (v, s)).mpr ⟨v1, v2, v3⟩)
        have := all i (List.getElem?_eq_some_iff.mp hi).1
        rw [lsF_at hi, hit_iff] at this
        obtain ⟨c, c1, c2⟩ := this
        refine ⟨c, bit_lt (qAb_lt _) c1, ?_, c2⟩
        rw [v4]; exact c1
      · by_cases ok : qOkR pl (pAsk pl set) (qLine pl) (pCp pl set) R.testBit
        · left
          have : ∃ i, i < L.length ∧ lsF pl (qLine pl) (pCp pl set) L i &&& R = 0 := by
            apply Classical.byContradiction
            intro no
            exact all (fun i hi e => no ⟨i, hi, e⟩)
          obtain ⟨i, hi, e⟩ := this
          obtain ⟨p, p1, p2⟩ := at' i hi
          obtain ⟨q1, q2, q3⟩ := (hmem p).mp p1
          rw [p2] at e
          have fr : qFree pl (pCp pl set) (qAb pl (qLine pl) (pCp pl set) p.1 p.2 (qc pl)) := by
            apply Classical.byContradiction
            intro nf
            obtain ⟨c, _, c2, c3⟩ := ok _ ⟨p.1, p.2, q1, q2, q3, rfl, nf⟩
            exact and0_bit.mp e c ⟨c2, c3⟩
          obtain ⟨c, c1, c2⟩ := fr
          refine tPr_zero (c := c) (by show pCp pl set c - qLeast pl c = 0; omega) ?_ (bit_lt (qAb_lt _) c1)
          cases u : R.testBit c
          · rfl
          · exact absurd ⟨c1, u⟩ (and0_bit.mp e c)
        · right
          exact ⟨fun h => absurd h.2 all, fun h => absurd h ok⟩
  · have nc : pCan pl set = false := by
      cases e : pCan pl set
      · rfl
      · exact absurd (qCan_iff.mp e).1 lo
    rw [nc, if_neg (by decide)]
    have : ∃ c, c < qc pl ∧ pCp pl set c < qLeast pl c := by
      apply Classical.byContradiction
      intro no
      exact lo (fun c hc => Nat.le_of_not_lt (fun q => no ⟨c, hc, q⟩))
    obtain ⟨c, c1, c2⟩ := this
    have T0 : ∀ s, tGp pl (pCp pl set) (uF (lsF pl (qLine pl) (pCp pl set) L) L.length s) (qc pl) = 0 := fun s => tGp_0 c2 c1
    have := tAc_nat (T := fun s => tGp pl (pCp pl set) (uF (lsF pl (qLine pl) (pCp pl set) L) L.length s) (qc pl)) (n := 2 ^ L.length) (X := 0) (by
      have e : ∀ n, fb_si (fun s => sgn s * ((tGp pl (pCp pl set) (uF (lsF pl (qLine pl) (pCp pl set) L) L.length s) (qc pl) : Nat) : Int)) n = 0 := by
        intro n
        induction n with
        | zero => rfl
        | succ n ih => rw [fb_si_succ, ih, T0]; simp
      exact e _)
    rw [this]
theorem n_towns {P : jM → Int32 → Prop} {a : Int32} (h : mI M z) (hP : ∀ M', mI M' (sTowns z a).1 → P M' (sTowns z a).2) : JC x jtbM mX12_towns (d + 3) [.ref (x.2.2.2 0), .int a] M (jI P) := by
  unfold sTowns at hP
  have w := h.pl.wf
  have h25 := w.c25
  have h6 := w.2.2.2.1
  refine b_X12_towns (d := d + 2) ?_
  rintro M1 rfl M2 rfl
  have h2 := (h.th 0).st 0
  generalize jrI (jrI M 0 (upd (M.1 0) 1 0)) 0 (upd ((jrI M 0 (upd (M.1 0) 1 0)).1 0) 0 0) = M2 at h2 ⊢
  refine k_mIsSet h2.pl ⟨fun c => ?_, fun c => by rw [show qin a (2 ^ qn (zP z)) = false from c] at hP; exact m_refuse h2 hP⟩
  rw [if_pos (show qin a (2 ^ qn (zP z)) = true from c)] at hP
  obtain ⟨k, hk, rfl, e2⟩ := qin_0 c (pow31 h2.pl.wf)
  rw [e2] at hP
  refine k_mAsk (pl := zP z) (set64 h2.pl.wf hk) h2.pl (fun M3 g1 g2 g3 g4 => ?_)
  have h3 : mI M3 (uSt z 0) := h2.keep (mSame.row (g1.mono (fun q hq => by unfold mScr; omega)))
  have pl3 : mPl (M3.1 5) (zP z) := h3.pl
  have g3' : mSi M3 (zP z) (pAsk (zP z) k) (qLine (zP z)) := g3
  have g4' : mCp M3 (zP z) (pCp (zP z) k) := g4
  have lens : ∀ v, (sLs (zP z) (pAsk (zP z) k) v).length = qSP (zP z) k v := fun v => sLs_len v
  refine jloop2 (fun v (M4 : jM) (n : Nat) => JW x jtbM mX12_towns (d + 3) (jI P) 33 [(0, .ref (x.2.2.2 0)), (2, .int (nI n)), (3, .int (nI v))] [] M4) (fun v M4 n => jsame (fun q => q = 18 ∨ q = 19) M3 M4 ∧ M4.2 = M3.2 ∧ n = (sLs (zP z) (pAsk (zP z) k) v).length ∧ n ≤ 16 ∧ mSl M4 (sLs (zP z) (pAsk (zP z) k) v)) (qn (zP z)) ?_ ?_ 0 M3 0 (Nat.zero_le _) ⟨jsame.rf, rfl, rfl, by omega, fun i p hi => (by simp [sLs] at hi)⟩
  · rintro M4 n ⟨f1, f2, rfl, f4, f5⟩
    have h4 : mI M4 (uSt z 0) := h3.keep (mSame.row (f1.mono (fun q hq => by unfold mScr; omega)))
    have pl4 : mPl (M4.1 5) (zP z) := h4.pl
    have s4 : mSi M4 (zP z) (pAsk (zP z) k) (qLine (zP z)) := by unfold mSi; rw [(f1 7 (by omega)).1, (f1 8 (by omega)).1]; exact g3'
    have c4 : mCp M4 (zP z) (pCp (zP z) k) := by unfold mCp; rw [(f1 9 (by omega)).1]; exact g4'
    have le16 : qSP (zP z) k (qn (zP z)) ≤ 16 := by rw [← lens]; exact f4
    rw [if_pos le16] at hP
    have val := towns_val (pl := zP z) w le16
    refine b_X12_towns_33 ?_
    rw [pl4.n]
    refine pk_le (qn (zP z)) (qn (zP z)) (fun _ => ?_) (fun u => absurd u (by omega))
    generalize hT : (fun s => tGp (zP z) (pCp (zP z) k) (uF (lsF (zP z) (qLine (zP z)) (pCp (zP z) k) (sLs (zP z) (pAsk (zP z) k) (qn (zP z)))) (sLs (zP z) (pAsk (zP z) k) (qn (zP z))).length s) (qc (zP z))) = T at val
    have mem : ∀ p, p ∈ sLs (zP z) (pAsk (zP z) k) (qn (zP z)) → p.1 < qn (zP z) ∧ (pAsk (zP z) k).testBit p.1 = true ∧ p.2 < qSt (zP z) p.1 := fun p hp => (sLs_mem _).mp hp
    generalize sLs (zP z) (pAsk (zP z) k) (qn (zP z)) = L at *
    have p16 : 2 ^ L.length ≤ 65536 := Nat.pow_le_pow_right (n := 2) (by decide) f4
    refine jloop (fun s (acc : Int64) => JW x jtbM mX12_towns (d + 3) (jI P) 113 [(0, .ref (x.2.2.2 0)), (2, .int (nI L.length)), (3, .long acc), (5, .int (nI s))] [] M4) (fun s acc => acc = lN (tAc T s)) (2 ^ L.length) ?_ ?_ 0 0 (Nat.zero_le _) rfl
    · rintro _ rfl
      have tl := tAc_le T (2 ^ L.length)
      refine b_X12_towns_113 ?_
      rw [nI_shl1 _ (by omega)]
      refine pk_le (2 ^ L.length) (2 ^ L.length) (fun _ => ?_) (fun u => absurd u (by omega))
      rw [lmod, pk_lRem (by omega) (by decide) (by decide), lN_i, val]
      exact hP M4 h4
    · rintro s _ hs rfl ih
      have tl := tAc_le T s
      have pop32 : qPop s ≤ 32 := fb_ct_le _ _
      have call : ∀ {Q : jM → Int64 → Prop}, Q M4 (lN (T s % 1000007)) → JC x jtbM mX12_townsWithout (d + 2) [.ref (x.2.2.2 0), .int (nI s), .int (nI L.length)] M4 (jL Q) := fun {Q} q => by
        refine m_without (pl := zP z) pl4 s4 c4 (fun v hv ha c hc => qCap_ask ha hv) f5 f4 mem (by omega) ?_
        rw [← hT] at q
        exact q
      have ml := Nat.mod_lt (T s) (show 0 < 1000007 by decide)
      refine b_X12_towns_113 ?_
      rw [nI_shl1 _ (by omega)]
      refine pk_le (2 ^ L.length) s (fun u => absurd u (by omega)) (fun _ => ?_)
      refine k_mBits (by omega) ?_
      rw [show (2 : Int32) = nI 2 from rfl, pk_rem (by omega) (by decide) (by decide), nI_eq0 (by omega), nI_1]
      refine ⟨fun odd => call ?_, fun even => call ?_⟩
      · rw [lmod, lN_sub (by omega), lN_add]
        refine ih _ ?_
        rw [tAc, if_neg odd]
      · rw [lN_add]
        refine ih _ ?_
        rw [tAc, if_pos even]
  · rintro v M4 n hv ⟨f1, f2, rfl, f4, f5⟩ ih
    have pl4 : mPl (M4.1 5) (zP z) := by rw [(f1 5 (by omega)).1]; exact pl3
    have h9 := qSt_le w v
    refine b_X12_towns_33 ?_
    rw [pl4.n]
    refine pk_le (qn (zP z)) v (fun u => absurd u (by omega)) (fun _ => ?_)
    have r7 : ∀ M5 : jM, jsame (fun q => q = 18 ∨ q = 19) M3 M5 → M5.1 7 v = jb ((pAsk (zP z) k).testBit v) := fun M5 t1 => by rw [(t1 7 (by omega)).1]; exact g3'.1 v hv
    cases ha : (pAsk (zP z) k).testBit v
    · have nx : sLs (zP z) (pAsk (zP z) k) (v + 1) = sLs (zP z) (pAsk (zP z) k) v := by rw [sLs, if_neg (by rw [ha]; decide)]
      have go : JW x jtbM mX12_towns (d + 3) (jI P) 33 [(0, .ref (x.2.2.2 0)), (2, .int (nI (sLs (zP z) (pAsk (zP z) k) v).length)), (3, .int (nI v + 1))] [] M4 := by
        rw [nI_1]
        exact ih M4 _ ⟨f1, f2, by rw [nx], f4, by rw [nx]; exact f5⟩
      refine b_X12_towns_46 (k_mStrips pl4 hv ⟨fun _ => go, fun _ => ⟨v, by omega, rfl, fun _ => go, fun u => absurd (by rw [r7 M4 f1, ha]; rfl) u⟩⟩)
    · have nx : sLs (zP z) (pAsk (zP z) k) (v + 1) = sLs (zP z) (pAsk (zP z) k) v ++ (List.range (qSt (zP z) v)).map (fun s => (v, s)) := by rw [sLs, if_pos ha]
      refine jloop2 (fun s (M5 : jM) (n : Nat) => JW x jtbM mX12_towns (d + 3) (jI P) 46 [(0, .ref (x.2.2.2 0)), (2, .int (nI n)), (3, .int (nI v)), (4, .int (nI s))] [] M5) (fun s M5 n => jsame (fun q => q = 18 ∨ q = 19) M3 M5 ∧ M5.2 = M3.2 ∧ n = (sLs (zP z) (pAsk (zP z) k) v ++ (List.range s).map (fun s => (v, s))).length ∧ n ≤ 16 ∧ mSl M5 (sLs (zP z) (pAsk (zP z) k) v ++ (List.range s).map (fun s => (v, s)))) (qSt (zP z) v) ?_ ?_ 0 M4 _ (Nat.zero_le _) ⟨f1, f2, (by simp), f4, (by simpa using f5)⟩
      · rintro M5 n ⟨t1, t2, rfl, t4, t5⟩
        have pl5 : mPl (M5.1 5) (zP z) := by rw [(t1 5 (by omega)).1]; exact pl3
        refine b_X12_towns_46 (k_mStrips pl5 hv (pk_le (qSt (zP z) v) (qSt (zP z) v) (fun _ => ?_) (fun u => absurd u (by omega))))
        rw [nI_1]
        exact ih M5 _ ⟨t1, t2, by rw [nx], t4, by rw [nx]; exact t5⟩
      · rintro s M5 n hs ⟨t1, t2, rfl, t4, t5⟩ ihs
        have pl5 : mPl (M5.1 5) (zP z) := by rw [(t1 5 (by omega)).1]; exact pl3
        have h5 : mI M5 (uSt z 0) := h3.keep (mSame.row (t1.mono (fun q hq => by unfold mScr; omega)))
        have ll : (sLs (zP z) (pAsk (zP z) k) v ++ (List.range s).map (fun s => (v, s))).length = qSP (zP z) k v + s := by rw [List.length_append, List.length_map, List.length_range, lens]
        have nx2 : (List.range (s + 1)).map (fun s => (v, s)) = (List.range s).map (fun s => (v, s)) ++ [(v, s)] := by rw [List.range_succ, List.map_append]; rfl
        refine b_X12_towns_46 (k_mStrips pl5 hv (pk_le (qSt (zP z) v) s (fun u => absurd u (by omega)) (fun _ => ⟨v, by omega, rfl, fun u => absurd u (by rw [r7 M5 t1, ha]; decide), fun _ => ?_⟩)))
        rw [show (16 : Int32) = nI 16 from rfl, nI_eq (by omega) (by omega), nI_1, nI_1]
        refine ⟨fun n16 => ⟨_, by omega, rfl, ?_⟩, fun e16 => ?_⟩
        · intro M6 e6 M7 e7
          refine ihs M7 _ ⟨by rw [e7, e6]; exact (t1.tr (jsame.I (Or.inl rfl))).tr (jsame.I (Or.inr rfl)), by rw [e7, e6]; exact t2, ?_, by omega, ?_⟩
          · have one : ∀ (l : List (Nat × Nat)) p, (l ++ [p]).length = l.length + 1 := fun l p => by simp
            rw [nx2, ← List.append_assoc, one]
          · rw [nx2, ← List.append_assoc]
            intro i p hi
            rw [e7, jrI_n (by omega), jrI_s, e6, jrI_s, jrI_n (by omega)]
            rcases app1 hi with ⟨u, u2⟩ | ⟨u, u2⟩
            · rw [pk_un (by omega), pk_un (by omega)]; exact t5 i p u2
            · rw [u, pk_us, pk_us, u2]; exact ⟨rfl, rfl⟩
        · have gt : ¬ qSP (zP z) k (qn (zP z)) ≤ 16 := by
            have m1 := qSP_mono (pl := zP z) (set := k) (show v + 1 ≤ qn (zP z) from hv)
            have m2 : qSP (zP z) k (v + 1) = qSP (zP z) k v + qSt (zP z) v := by
              show qSP (zP z) k v + (if (k &&& qk (zP z)).testBit v then qSt (zP z) v else 0) = _
              rw [if_pos (show (k &&& qk (zP z)).testBit v = true from ha)]
            omega
          rw [if_neg gt] at hP
          exact m_refuse h5 hP
end MTX
