/-! cheapest, least, courts, sure, instead: what is asked, and the class -/
noncomputable def pW (pl : qP) (set : Nat) : Nat := qCW pl (pAsk pl set) (qLine pl) (pCp pl set)
noncomputable def pTw (pl : qP) (set : Nat) (t : Nat → Nat) : Nat → Nat := tcpy (qChT pl (pCp pl set) (pW pl set)) t (qc pl)
noncomputable def sCheapest (z : qZ) (a : Int32) : qZ × Int32 := if qin a (2 ^ qn (zP z)) then (if pCan (zP z) a.toNatClampNeg then (uSt (uTn z (pTw (zP z) a.toNatClampNeg (zT z))) 0, nI (pW (zP z) a.toNatClampNeg / 2 ^ 25)) else rf z 9) else rf z 2
def qFr (z : qZ) (lo hi : Nat) : qZ := if 0 < hi then uFr z (lN (lo / Nat.gcd lo hi), lN (hi / Nat.gcd lo hi)) else z
noncomputable def sLeast (z : qZ) (a : Int32) : qZ × Int32 := if qin a (2 ^ qn (zP z)) then (if pCan (zP z) a.toNatClampNeg then (uSt (qFr z (pW (zP z) a.toNatClampNeg / 2 ^ 25) (qStone (zP z) (pCp (zP z) a.toNatClampNeg) (qc (zP z)))) 0, nI (pW (zP z) a.toNatClampNeg / 2 ^ 25)) else rf z 9) else rf z 2
noncomputable def pFew (pl : qP) (set : Nat) : Nat := qLW (qc pl) (fun _ => 1) (qOkR pl (pAsk pl set) (qLine pl) (pCp pl set))
noncomputable def sCourts (z : qZ) (a : Int32) : qZ × Int32 := if qin a (2 ^ qn (zP z)) then (if pCan (zP z) a.toNatClampNeg then an z (nI (qc (zP z) - pFew (zP z) a.toNatClampNeg)) else rf z 9) else rf z 2
noncomputable def pSure (pl : qP) (set k : Nat) (w : Int32) : Nat := if w = 1 ∨ (gF pl (pAsk pl set) (qLine pl) (pCp pl set)).testBit k = true then pCp pl set k else qLeast pl k
noncomputable def sSure (z : qZ) (a b w : Int32) : qZ × Int32 := if qin a (2 ^ qn (zP z)) && qin b (qc (zP z)) then (if qin w 2 then (if pCan (zP z) a.toNatClampNeg then an z (nI (pSure (zP z) a.toNatClampNeg b.toNatClampNeg w)) else rf z 9) else rf z 5) else rf z 2
def pSee (pl : qP) (t : Nat → Nat) : Nat → Nat → Nat := fun v s => qG (qw pl) (qh pl) (qSide pl v) s t (qc pl)
def pIn (pl : qP) (t : Nat → Nat) (k c : Nat) : Nat := if c = k then min (qCp pl (2 ^ qn pl - 1) (pSee pl t) k) (qLeast pl k) else qCp pl (2 ^ qn pl - 1) (pSee pl t) c
noncomputable def sInstead (z : qZ) (a : Int32) : qZ × Int32 := if qin a (qc (zP z)) then (if qCan (zP z) (2 ^ qn (zP z) - 1) (pSee (zP z) (zT z)) (pIn (zP z) (zT z) a.toNatClampNeg) then an z (nI (qCW (zP z) (2 ^ qn (zP z) - 1) (pSee (zP z) (zT z)) (pIn (zP z) (zT z) a.toNatClampNeg) / 2 ^ 25)) else rf z 9) else rf z 2
theorem pIn_le {pl : qP} {t : Nat → Nat} (w : qWf pl) (k c : Nat) : pIn pl t k c ≤ 99 := by
  have h1 := qCp_le w (ask := 2 ^ qn pl - 1) (want := pSee pl t) c
  have h2 := qCp_le w (ask := 2 ^ qn pl - 1) (want := pSee pl t) k
  unfold pIn
  split <;> omega
theorem pIn_hle {pl : qP} {t : Nat → Nat} (k : Nat) : ∀ v, v < qn pl → (2 ^ qn pl - 1).testBit v = true → ∀ c, c < qc pl → pIn pl t k c ≤ pSee pl t v (qFv pl v c) := fun v hv ha c _ => by
  have := qCap_ask (pl := pl) (want := pSee pl t) (c := c) ha hv
  have e : qCp pl (2 ^ qn pl - 1) (pSee pl t) c = qCap pl (2 ^ qn pl - 1) (pSee pl t) c (qn pl) := rfl
  unfold pIn
  split
  · rename_i q
    rw [← q, e]
    omega
  · rw [e]; exact this
theorem qCW_stone {pl : qP} {ask : Nat} {want : Nat → Nat → Nat} {cp : Nat → Nat} (w : qWf pl) (h9 : ∀ c, cp c ≤ 99) (hz : qNz pl ask want cp) : qStone pl (qChT pl cp (qCW pl ask want cp)) (qc pl) = qCW pl ask want cp / 2 ^ 25 := by
  obtain ⟨R, _, h2, h3, _⟩ := qCW_spec w h9 hz
  rw [h3]; exact qChT_stone h2
theorem gcd_step (a b : Nat) : Nat.gcd a b = Nat.gcd b (a % b) := by
  rw [Nat.gcd_comm a b, Nat.gcd_rec, Nat.gcd_comm]
theorem cI.setFr {M M' : jM} {z : qZ} {a b : Int64} (h : cI M z) (h1 : M'.1 = M.1) (h2 : ∀ q, q ≠ 75 → M'.2 q = M.2 q) (ha : M'.2 75 0 = a) (hb : M'.2 75 1 = b) : cI M' (uFr z (a, b)) := by
  obtain ⟨a1, a2, a3, a4, a5, a6, a7, a8, a9, a10, a11, a12, a13, a14, a15, a16⟩ := h
  refine ⟨by rw [h1]; exact a1, ha, hb, fun t ht => (a4 t ht).keep (by rw [h1]) (h2 _ (by omega)), by rw [h1]; exact a5, fun k hk => by rw [h1]; exact a6 k hk, by rw [h1]; exact a7, by rw [h1]; exact a8, a9.keep (fun q _ _ _ => by rw [h1]) (h2 _ (by omega)), by rw [h1]; exact a10, fun m hm => (a11 m hm).keep (fun q _ _ _ => by rw [h1]) (h2 _ (by omega)), by rw [h1]; exact a12, fun k hk => by rw [h1]; exact a13 k hk, fun k hk => by rw [h1]; exact a14 k hk, fun k hk => by rw [h2 14 (by omega), h2 26 (by omega)]; exact a15 k hk, a16⟩
section CO3
variable {x : jX} {d : Nat} {M : jM} {z : qZ}
theorem k_gcd {P : jM → Int32 → Prop} : ∀ n {a b i : Nat}, a < 2 ^ 31 → b < 2 ^ n → n ≤ 30 → i + 2 * n ≤ 100 → P M (nI (Nat.gcd a b)) → JW x jtbC mX11_commonDivisor d (jI P) 7 [(2, .int (nI a)), (3, .int (nI b)), (4, .int (nI i))] [] M := by
  have zero : ∀ {a i : Nat}, P M (nI (Nat.gcd a 0)) → JW x jtbC mX11_commonDivisor d (jI P) 7 [(2, .int (nI a)), (3, .int (nI 0)), (4, .int (nI i))] [] M := fun {a i} h => by
    rw [Nat.gcd_zero_right] at h
    exact b_X11_commonDivisor_7 ⟨fun _ => h, fun _ => ⟨fun _ => h, fun q => absurd rfl q⟩⟩
  intro n
  induction n with
  | zero =>
    intro a b i ha hb hn hi h
    obtain rfl : b = 0 := by omega
    exact zero h
  | succ n ih =>
    intro a b i ha hb hn hi h
    by_cases b0 : b = 0
    · subst b0; exact zero h
    · have b31 : b < 2 ^ 31 := Nat.lt_of_lt_of_le hb (Nat.pow_le_pow_right (by decide) (by omega))
      refine b_X11_commonDivisor_7 (pk_le 100 i (fun c => absurd c (by omega)) (fun _ => ?_))
      rw [nI_eq0 b31]
      refine ⟨fun c => absurd c b0, fun _ => ⟨b0, ?_⟩⟩
      rw [pk_rem ha (by omega) b31, nI_1]
      have r1 := Nat.mod_lt a (show 0 < b by omega)
      rw [gcd_step] at h
      rcases Nat.lt_or_ge (a % b) (2 ^ n) with q | q
      · exact ih b31 q (by omega) (by omega) h
      · have p0 := Nat.two_pow_pos n
        have r0 : ¬ a % b = 0 := by omega
        generalize a % b = r at *
        refine b_X11_commonDivisor_7 (pk_le 100 (i + 1) (fun c => absurd c (by omega)) (fun _ => ?_))
        rw [nI_eq0 (by omega)]
        refine ⟨fun c => absurd c r0, fun _ => ⟨r0, ?_⟩⟩
        rw [pk_rem b31 (by omega) (by omega), nI_1]
        rw [gcd_step] at h
        have e : b % r = b - r := by
          rw [Nat.mod_eq_sub_mod (by omega), Nat.mod_eq_of_lt]
          have : 2 ^ (n + 1) = 2 ^ n * 2 := Nat.pow_succ 2 n
          omega
        refine ih (by omega) ?_ (by omega) (by omega) h
        rw [e]
        have : 2 ^ (n + 1) = 2 ^ n * 2 := Nat.pow_succ 2 n
        omega
theorem k_tellFraction {P : jM → Prop} {lo hi : Nat} (h : cI M z) (hlo : lo < 2 ^ 20) (hhi : hi < 2 ^ 20) (hP : ∀ M', cI M' (qFr z lo hi) → P M') : JC x jtbC mX11_tellFraction (d + 1) [.ref (x.2.2.2 0), .int (nI lo), .int (nI hi)] M (jV P) := by
  unfold qFr at hP
  refine b_X11_tellFraction (b_X11_commonDivisor (k_gcd 20 (i := 0) (by omega) hlo (by omega) (by omega) ?_))
  rw [Nat.gcd_comm]
  by_cases q : hi = 0
  · subst q
    rw [if_neg (by omega)] at hP
    exact ⟨fun _ => hP M h, fun c => absurd (show nI 0 ≤ (0 : Int32) by decide) c⟩
  · rw [if_pos (by omega)] at hP
    have g0 : 0 < Nat.gcd lo hi := Nat.gcd_pos_of_pos_right _ (by omega)
    have g1 : Nat.gcd lo hi ≤ hi := Nat.gcd_le_right _ (by omega)
    generalize Nat.gcd lo hi = g at *
    refine ⟨fun c => absurd c (nI_nle (by omega) (by omega)), fun _ => ⟨fun c => absurd c (nI_nle g0 (by omega)), fun _ => ⟨nI_ne0 g0 (by omega), ?_⟩⟩⟩
    intro M2 e2
    refine ⟨nI_ne0 g0 (by omega), ?_⟩
    intro M3 e3
    have d1 : lo / g < 2 ^ 31 := Nat.lt_of_le_of_lt (Nat.div_le_self _ _) (by omega)
    have d2 : hi / g < 2 ^ 31 := Nat.lt_of_le_of_lt (Nat.div_le_self _ _) (by omega)
    rw [pk_div (by omega) g0 (by omega), nI_l d1] at e2
    rw [pk_div (by omega) g0 (by omega), nI_l d2] at e3
    refine hP M3 (h.setFr (by rw [e3, e2]; rfl) (fun q hq => by rw [e3, jrL_n hq, e2, jrL_n hq]) ?_ ?_)
    · rw [e3, jrL_s, pk_uLn (by omega), e2, jrL_s, pk_uLs]
    · rw [e3, jrL_s, pk_uLs]
theorem o_cheapest {P : jM → Int32 → Prop} {a : Int32} (h : cI M z) (hP : ∀ M', cI M' (sCheapest z a).1 → P M' (sCheapest z a).2) : JC x jtbC mX11_cheapest (d + 31) [.ref (x.2.2.2 0), .int a] M (jI P) := by
  unfold sCheapest at hP
  refine b_X11_cheapest (d := d + 30) (k_keptStatus (d := d + 25) h (fun M1 h1 c => ?_) (fun M1 k h1 hk ea e c q => ?_) (fun M1 k h1 hk ea e c q g3 g4 => ?_))
  · rw [c] at hP
    exact ⟨fun z => absurd z (by decide), fun _ => c_refused h1 hP⟩
  · rw [if_pos c, e, q] at hP
    exact ⟨fun z => absurd z (by decide), fun _ => c_refused h1 hP⟩
  · rw [if_pos c, e, q] at hP
    have w := h1.pl.wf
    have h25 := w.c25
    obtain ⟨l1, nz⟩ := pCan_nz w q
    refine ⟨fun _ => k_cheapestTown sC_39 (by decide) (by decide) (Or.inl rfl) h1.pl g3 g4 l1 nz (fun M2 f1 f2 f3 f4 => ?_), fun z => absurd rfl z⟩
    have t99 : ∀ c, pTw (zP z) k (zT z) c ≤ 99 := tcpy_le (fun c => qChT_le w g4.2 _ c) h1.t9
    have rows : ∀ c, c < 25 → M2.1 39 c = nI (pTw (zP z) k (zT z) c) := fun c hc => by
      unfold pTw tcpy
      by_cases q : c < qc (zP z)
      · rw [if_pos q]; exact f3 c q
      · rw [if_neg q, f4 c (by omega)]; exact h1.tw c hc
    have hx : cI (jrI M1 39 (M2.1 39)) (uTn z (pTw (zP z) k (zT z))) := h1.setTn (jsame.I rfl) (fun c hc => by rw [jrI_s]; exact rows c hc) t99
    have h2 : cI M2 (uTn z (pTw (zP z) k (zT z))) := hx.scr (fun q hq => by
      have nq : ¬ (53 ≤ q ∧ q ≤ 58) := fun u => hq (by unfold cScr; omega)
      refine ⟨?_, f2 q nq⟩
      by_cases e : q = 39
      · rw [e, jrI_s]
      · rw [jrI_n e]; exact (f1 q (by omega)).1)
    refine k_stoneOf (f := pTw (zP z) k (zT z)) atC5_30 h2.pl sC_39 (by decide) h25 (fun c hc => rows c (by have : qc (zP z) ≤ 25 := h25; have hc' : c < qc (zP z) := hc; omega)) t99 ?_
    have es : qStone (zP (uTn z (pTw (zP z) k (zT z)))) (pTw (zP z) k (zT z)) (qc (zP (uTn z (pTw (zP z) k (zT z))))) = pW (zP z) k / 2 ^ 25 := by
      refine Eq.trans (qStone_cong (g := qChT (zP z) (pCp (zP z) k) (pW (zP z) k)) (fun c hc => ?_)) (qCW_stone w g4.2 nz)
      unfold pTw tcpy
      exact if_pos hc
    rw [es]
    exact c_answered h2 hP
theorem o_least {P : jM → Int32 → Prop} {a : Int32} (h : cI M z) (hP : ∀ M', cI M' (sLeast z a).1 → P M' (sLeast z a).2) : JC x jtbC mX11_least (d + 31) [.ref (x.2.2.2 0), .int a] M (jI P) := by
  unfold sLeast at hP
  refine b_X11_least (d := d + 30) (k_keptStatus (d := d + 25) h (fun M1 h1 c => ?_) (fun M1 k h1 hk ea e c q => ?_) (fun M1 k h1 hk ea e c q g3 g4 => ?_))
  · rw [c] at hP
    exact ⟨fun z => absurd z (by decide), fun _ => c_refused h1 hP⟩
  · rw [if_pos c, e, q] at hP
    exact ⟨fun z => absurd z (by decide), fun _ => c_refused h1 hP⟩
  · rw [if_pos c, e, q] at hP
    have w := h1.pl.wf
    have h25 := w.c25
    obtain ⟨l1, nz⟩ := pCan_nz w q
    refine ⟨fun _ => k_cheapestTown sC_73 (by decide) (by decide) (Or.inr rfl) h1.pl g3 g4 l1 nz (fun M2 f1 f2 f3 f4 => ?_), fun z => absurd rfl z⟩
    have h2 : cI M2 z := h1.scr (fun q hq => by
      have nq : ¬ (53 ≤ q ∧ q ≤ 58) := fun u => hq (by unfold cScr; omega)
      have n7 : q ≠ 73 := fun u => hq (by unfold cScr; omega)
      exact f1 q (by omega))
    refine k_stoneOf (f := qChT (zP z) (pCp (zP z) k) (pW (zP z) k)) atC5_30 h2.pl sC_73 (by decide) h25 f3 (fun c => qChT_le w g4.2 _ c) ?_
    rw [show qStone (zP z) (qChT (zP z) (pCp (zP z) k) (pW (zP z) k)) (qc (zP z)) = pW (zP z) k / 2 ^ 25 from qCW_stone w g4.2 nz]
    refine k_stoneOf (f := pCp (zP z) k) atC5_30 h2.pl sC_50 (by decide) h25 (fun c hc => by rw [(f1 50 (by omega)).1]; exact g4.1 c hc) g4.2 ?_
    have b1 := qStone_le w (f := pCp (zP z) k) g4.2 (qc (zP z))
    have b2 : qc (zP z) * 9801 ≤ 25 * 9801 := Nat.mul_le_mul_right _ h25
    have b3 : pW (zP z) k / 2 ^ 25 < 2 ^ 20 := by
      have := (qCW_spec w g4.2 nz).choose_spec.2.2.2.2.2
      exact (Nat.div_lt_iff_lt_mul (by decide)).mpr this
    refine k_tellFraction (d := d + 29) h2 b3 (by omega) (fun M3 h3 => c_answered h3 hP)
theorem o_courts {P : jM → Int32 → Prop} {a : Int32} (h : cI M z) (hP : ∀ M', cI M' (sCourts z a).1 → P M' (sCourts z a).2) : JC x jtbC mX11_courts (d + 31) [.ref (x.2.2.2 0), .int a] M (jI P) := by
  unfold sCourts at hP
  refine b_X11_courts (d := d + 30) (k_keptStatus (d := d + 25) h (fun M1 h1 c => ?_) (fun M1 k h1 hk ea e c q => ?_) (fun M1 k h1 hk ea e c q g3 g4 => ?_))
  · rw [c] at hP
    exact ⟨fun z => absurd z (by decide), fun _ => c_refused h1 hP⟩
  · rw [if_pos c, e, q] at hP
    exact ⟨fun z => absurd z (by decide), fun _ => c_refused h1 hP⟩
  · rw [if_pos c, e, q] at hP
    have w := h1.pl.wf
    obtain ⟨l1, nz⟩ := pCan_nz w q
    refine ⟨fun _ => k_fewest h1.pl g3 g4 nz (fun M2 f1 => ?_), fun z => absurd rfl z⟩
    have h2 : cI M2 z := h1.scr (f1.mono (fun q hq => by unfold cScr; omega))
    have le : pFew (zP z) k ≤ qc (zP z) := by
      have := (qLW_spec (C := qc (zP z)) (wt := fun _ => 1) (V := qOkR (zP z) (pAsk (zP z) k) (qLine (zP z)) (pCp (zP z) k)) ⟨_, ok_all nz⟩).2 _ (ok_all nz)
      have := qWg_bd (C := qc (zP z)) (wt := fun _ => 1) (B := 1) (fun _ _ => Nat.le_refl _) (fun _ => true)
      show qLW _ _ _ ≤ _
      omega
    have e30 : M1.1 30 2 = nI (qc (zP z)) := h1.pl.c
    rw [e30, pk_sub (show qLW (qc (zP z)) (fun _ => 1) (qOkR (zP z) (pAsk (zP z) k) (qLine (zP z)) (pCp (zP z) k)) ≤ qc (zP z) from le)]
    exact c_answered h2 hP
theorem o_sure {P : jM → Int32 → Prop} {a b w : Int32} (h : cI M z) (hP : ∀ M', cI M' (sSure z a b w).1 → P M' (sSure z a b w).2) : JC x jtbC mX11_sure (d + 5) [.ref (x.2.2.2 0), .int a, .int b, .int w] M (jI P) := by
  unfold sSure at hP
  have wf := h.pl.wf
  have h25 := wf.c25
  refine b_X11_sure (d := d + 4) (k_hasSet atC5_30 h.pl ⟨fun c => ?_, fun c => k_hasCell atC5_30 h.pl ⟨fun c2 => ?_, fun c2 => ?_⟩⟩)
  · rw [c] at hP; exact c_refused h hP
  · rw [c, c2] at hP
    obtain ⟨k, hk, rfl, e⟩ := qin_0 c (pow31 wf)
    obtain ⟨j, hj, rfl, e2⟩ := qin_0 c2 (by omega)
    have h64 := set64 wf hk
    have fin : ∀ (M1 : jM), cI M1 z → cCp M1 (zP z) (pCp (zP z) k) → ∀ hi : Bool, (∀ M', cI M' (uSt z 0) → P M' (nI (if hi then pCp (zP z) k j else qLeast (zP z) j))) → JW x jtbC mX11_sure (d + 5) (jI P) 92 [(0, .ref (x.2.2.2 0)), (2, .int (nI j))] [.int (jb hi)] M1 := fun M1 h1 g4 hi hP' => by
      refine b_X11_sure_92 ?_
      rw [jb_0]
      refine ⟨fun q => ⟨j, by omega, rfl, ?_⟩, fun q => ⟨j, by omega, rfl, ?_⟩⟩
      · have e32 : M1.1 32 j = nI (qLeast (zP z) j) := h1.pl.least (by omega)
        rw [e32]; rw [q] at hP'
        exact c_answered h1 hP'
      · have : hi = true := by revert q; cases hi <;> simp
        rw [g4.1 j hj]; rw [this] at hP'
        exact c_answered h1 hP'
    have go : qin w 2 = true → JW x jtbC mX11_sure (d + 5) (jI P) 49 [(0, .ref (x.2.2.2 0)), (1, .int (nI k)), (2, .int (nI j)), (3, .int w)] [] M := fun w2 => by
      rw [if_pos (show (true && true) = true from rfl), if_pos w2, e, e2] at hP
      refine b_X11_sure_49 (d := d + 4) (k_canKeep h64 h (fun M1 h1 g3 g4 _ => ⟨fun q => ⟨fun w1 => ?_, fun w1 => ?_⟩, fun q => ?_⟩))
      · rw [if_pos q] at hP
        refine fin M1 h1 g4 true (fun M' h' => ?_)
        have := hP M' h'
        unfold pSure at this
        rw [if_pos (Or.inl w1)] at this
        exact this
      · rw [if_pos q] at hP
        refine k_mustRaise h1.pl g3 g4 hj (fun M2 f1 => ?_)
        have h2 : cI M2 z := h1.scr (f1.mono (fun q hq => by unfold cScr; omega))
        have g4' : cCp M2 (zP z) (pCp (zP z) k) := ⟨fun c hc => by rw [(f1 50 (by omega)).1]; exact g4.1 c hc, g4.2⟩
        refine ⟨fun u => fin M2 h2 g4' false (fun M' h' => ?_), fun u => fin M2 h2 g4' true (fun M' h' => ?_)⟩
        · have := hP M' h'
          unfold pSure at this
          rw [if_neg (fun v => v.elim w1 (fun v => by rw [u] at v; cases v))] at this
          exact this
        · have := hP M' h'
          unfold pSure at this
          rw [if_pos (Or.inr u)] at this
          exact this
      · rw [q] at hP; exact c_refused h1 hP
    refine ⟨fun w0 => go (by rw [w0]; rfl), fun w0 => ⟨fun w1 => go (by rw [w1]; rfl), fun w1 => ?_⟩⟩
    have nw : qin w 2 = false := by
      cases u : qin w 2
      · rfl
      · obtain ⟨m, hm, rfl, _⟩ := qin_0 u (by decide)
        rcases (show m = 0 ∨ m = 1 by omega) with rfl | rfl
        · exact absurd rfl w0
        · exact absurd rfl w1
    rw [nw] at hP; exact c_refused h hP
  · rw [c, c2] at hP; exact c_refused h hP
theorem o_instead {P : jM → Int32 → Prop} {a : Int32} (h : cI M z) (hP : ∀ M', cI M' (sInstead z a).1 → P M' (sInstead z a).2) : JC x jtbC mX11_instead (d + 31) [.ref (x.2.2.2 0), .int a] M (jI P) := by
  unfold sInstead at hP
  have w := h.pl.wf
  have h25 := w.c25
  refine b_X11_instead (d := d + 30) (k_hasCell atC5_30 h.pl ⟨fun c => ?_, fun c => ?_⟩)
  · rw [if_pos c] at hP
    obtain ⟨k, hk, rfl, e⟩ := qin_0 c (by omega)
    rw [e] at hP
    refine k_wantViews (d := d + 27) h.pl sC_39 (by decide) (by omega) (fun c hc => h.tw c (by omega)) h.t9 (by decide) (fun M2 f1 f2 f3 f4 => ?_)
    have h2 : cI M2 z := h.scr (f1.mono (fun q hq => by unfold cScr; omega))
    refine b_X8_keepLow ⟨k, by omega, rfl, ?_⟩
    have b1 := f4.2 k
    have b2 := w.2.2.2.2.2.2.2.1 k
    have e32 : M2.1 32 k = nI (qLeast (zP z) k) := h2.pl.least (by omega)
    rw [f4.1 k hk, e32]
    refine k_minN (by omega) (by omega) ?_
    intro M3 e3
    have s3 : jsame (fun q => q = 50) M2 M3 := by rw [e3]; exact jsame.I rfl
    have h3 : cI M3 z := h2.scr (s3.mono (fun q hq => by unfold cScr; omega))
    have c3 : cCp M3 (zP z) (pIn (zP z) (zT z) k) := ⟨fun c hc => by
      rw [e3, jrI_s]
      unfold pIn
      by_cases q : c = k
      · rw [q, pk_us, if_pos rfl]; rfl
      · rw [pk_un q, if_neg q]; exact f4.1 c hc, fun c => pIn_le w k c⟩
    have s3' : cSi M3 (zP z) (2 ^ qn (zP z) - 1) (pSee (zP z) (zT z)) := ⟨by rw [(s3 49 (by omega)).1]; exact f3.1, f3.2.1, f3.2.2.1, fun v s x1 x2 x3 => by rw [(s3 52 (by omega)).1]; exact f3.2.2.2 v s x1 x2 x3⟩
    refine k_canBeKept (d := d + 27) h3.pl s3' c3 (fun M4 t1 t2 t3 => ⟨fun q => ?_, fun q => ?_⟩)
    · rw [if_pos q] at hP
      have h4 : cI M4 z := h3.scr (t1.mono (fun q hq => by unfold cScr; omega))
      obtain ⟨l1, nz⟩ := qCan_nz w (pIn_hle k) q
      have s4 : cSi M4 (zP z) (2 ^ qn (zP z) - 1) (pSee (zP z) (zT z)) := ⟨by rw [(t1 49 (by omega)).1]; exact s3'.1, s3'.2.1, s3'.2.2.1, fun v s x1 x2 x3 => by rw [(t1 52 (by omega)).1]; exact s3'.2.2.2 v s x1 x2 x3⟩
      have c4 : cCp M4 (zP z) (pIn (zP z) (zT z) k) := ⟨fun c hc => by rw [(t1 50 (by omega)).1]; exact c3.1 c hc, c3.2⟩
      refine k_cheapestTown sC_73 (by decide) (by decide) (Or.inr rfl) h4.pl s4 c4 l1 nz (fun M5 g1 g2 g3 g4 => ?_)
      have h5 : cI M5 z := h4.scr (fun q hq => by
        have nq : ¬ (53 ≤ q ∧ q ≤ 58) := fun u => hq (by unfold cScr; omega)
        have n7 : q ≠ 73 := fun u => hq (by unfold cScr; omega)
        exact g1 q (by omega))
      refine k_stoneOf (f := qChT (zP z) (pIn (zP z) (zT z) k) (qCW (zP z) (2 ^ qn (zP z) - 1) (pSee (zP z) (zT z)) (pIn (zP z) (zT z) k))) atC5_30 h5.pl sC_73 (by decide) h25 g3 (fun c => qChT_le w c4.2 _ c) ?_
      rw [show qStone (zP z) (qChT (zP z) (pIn (zP z) (zT z) k) (qCW (zP z) (2 ^ qn (zP z) - 1) (pSee (zP z) (zT z)) (pIn (zP z) (zT z) k))) (qc (zP z)) = _ from qCW_stone w c4.2 nz]
      exact c_answered h5 hP
    · rw [q] at hP
      exact c_refused (h3.scr (t1.mono (fun q hq => by unfold cScr; omega))) hP
  · rw [c] at hP; exact c_refused h hP
end CO3
