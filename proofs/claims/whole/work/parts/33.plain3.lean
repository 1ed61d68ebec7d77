/-- an index that is in range -/
def qin (a : Int32) (n : Nat) : Bool := decide (0 ≤ a.toInt ∧ a.toInt < n)
theorem qin_t {a : Int32} {n : Nat} (h : qin a n = true) : ∃ j, j < n ∧ a = nI j := by
  have h := of_decide_eq_true h
  refine ⟨a.toInt.toNat, by omega, ?_⟩
  apply Int32.toInt_inj.mp
  have := Int32.toInt_lt a
  rw [nI_toInt (by omega)]
  omega
theorem qin_nI {j n : Nat} (h : j < 2 ^ 31) : qin (nI j) n = decide (j < n) := by
  unfold qin
  rw [nI_toInt h]
  congr 1
  apply propext
  omega
/-- the two tests of an index -/
theorem qin_br {a : Int32} {n : Nat} (hn : n < 2 ^ 31) {A : Bool → Prop} (h : A (qin a n)) : (a < 0 → A false) ∧ (¬ a < 0 → (nI n ≤ a → A false) ∧ (¬ nI n ≤ a → A true)) := by
  have h0 : (0 : Int32).toInt = 0 := rfl
  have e : ∀ b, qin a n = b → A b := fun b hb => hb ▸ h
  refine ⟨fun c => e _ (decide_eq_false ?_), fun c => ⟨fun c2 => e _ (decide_eq_false ?_), fun c2 => e _ (decide_eq_true ?_)⟩⟩
  · rw [Int32.lt_iff_toInt_lt, h0] at c; omega
  · rw [Int32.le_iff_toInt_le, nI_toInt hn] at c2; omega
  · rw [Int32.le_iff_toInt_le, nI_toInt hn] at c2; rw [Int32.lt_iff_toInt_lt, h0] at c; omega
theorem nI_shl1 : ∀ n, n < 31 → (1 : Int32) <<< (nI n &&& 31) = nI (2 ^ n) := by decide +kernel
def qSP (pl : qP) (set : Nat) : Nat → Nat
  | 0 => 0
  | v + 1 => qSP pl set v + (if (set &&& qk pl).testBit v then qSt pl v else 0)
theorem qSP_le {pl : qP} (w : qWf pl) (set : Nat) : ∀ n, qSP pl set n ≤ n * 9
  | 0 => Nat.zero_le _
  | n + 1 => by
    have h1 := qSP_le w set n
    have h2 := qSt_le w n
    show qSP pl set n + (if _ then _ else 0) ≤ (n + 1) * 9
    split <;> omega
def qNm (pl : qP) (name : Int64) : Nat := qFst (fun v => decide (qName pl v = name)) (qn pl)
section KP3
variable {x : jX} {tb : jT} {d : Nat} {M : jM} {p : Nat} {pl : qP}
theorem k_fillI {P : jM → Prop} {o n : Nat} {v : Int32} (so : js tb o = (20, n)) (hn : n < 2 ^ 31) (h : ∀ M', jsame (fun q => q = o) M M' → M'.2 = M.2 → (∀ k, k < n → M'.1 o k = v) → P M') : JC x tb mJ7_fill_53178 d [.ref (x.2.2.2 o), .int v] M (jV P) := by
  refine b_J7_fill_53178 so hn ?_
  refine jloop (fun i (M' : jM) => JW x tb mJ7_fill_53178 d (jV P) 5 [(0, .ref (x.2.2.2 o)), (1, .int v), (2, .int (nI i)), (3, .int (nI n))] [] M') (fun i M' => jsame (fun q => q = o) M M' ∧ M'.2 = M.2 ∧ ∀ k, k < i → M'.1 o k = v) n ?_ ?_ 0 M (Nat.zero_le _) ⟨jsame.rf, rfl, fun k hk => absurd hk (Nat.not_lt_zero _)⟩
  · rintro M1 ⟨e1, e2, e3⟩
    exact b_J7_fill_53178_5 so hn (pk_le n n (fun _ => h M1 e1 e2 e3) (fun c => absurd c (by omega)))
  · rintro i M1 hi ⟨e1, e2, e3⟩ ih
    refine b_J7_fill_53178_5 so hn (pk_le n i (fun c => absurd c (by omega)) (fun _ => ⟨i, hi, rfl, ?_⟩))
    rintro M2 rfl
    rw [nI_1]
    refine ih _ ⟨e1.tr (jsame.I rfl), e2, fun k hk => ?_⟩
    rw [jrI_s]
    by_cases c : k = i
    · rw [c, pk_us]
    · rw [pk_un c, e3 k (by omega)]
theorem k_fillL {P : jM → Prop} {o n : Nat} {v : Int64} (so : js tb o = (23, n)) (hn : n < 2 ^ 31) (h : ∀ M', jsame (fun q => q = o) M M' → M'.1 = M.1 → (∀ k, k < n → M'.2 o k = v) → P M') : JC x tb mJ7_fill_d0a16 d [.ref (x.2.2.2 o), .long v] M (jV P) := by
  refine b_J7_fill_d0a16 so hn ?_
  refine jloop (fun i (M' : jM) => JW x tb mJ7_fill_d0a16 d (jV P) 6 [(0, .ref (x.2.2.2 o)), (1, .long v), (3, .int (nI i)), (4, .int (nI n))] [] M') (fun i M' => jsame (fun q => q = o) M M' ∧ M'.1 = M.1 ∧ ∀ k, k < i → M'.2 o k = v) n ?_ ?_ 0 M (Nat.zero_le _) ⟨jsame.rf, rfl, fun k hk => absurd hk (Nat.not_lt_zero _)⟩
  · rintro M1 ⟨e1, e2, e3⟩
    exact b_J7_fill_d0a16_6 so hn (pk_le n n (fun _ => h M1 e1 e2 e3) (fun c => absurd c (by omega)))
  · rintro i M1 hi ⟨e1, e2, e3⟩ ih
    refine b_J7_fill_d0a16_6 so hn (pk_le n i (fun c => absurd c (by omega)) (fun _ => ⟨i, hi, rfl, ?_⟩))
    rintro M2 rfl
    rw [nI_1]
    refine ih _ ⟨e1.tr (jsame.L rfl), e2, fun k hk => ?_⟩
    rw [jrL_s]
    by_cases c : k = i
    · rw [c, pk_uLs]
    · rw [pk_uLn c, e3 k (by omega)]
theorem k_hasCell {P : jM → Bool → Prop} {a : Int32} (a0 : aX5 tb p) (hp : cPl M p pl) (h : P M (qin a (qc pl))) : JC x tb mX5_hasCell d [.ref (x.2.2.2 p), .int a] M (jZ P) := by
  refine b_X5_hasCell a0 ?_
  rw [hp.c]
  exact qin_br (A := P M) (by have := hp.wf.c25; omega) h
theorem k_hasVillage {P : jM → Bool → Prop} {a : Int32} (a0 : aX5 tb p) (hp : cPl M p pl) (h : P M (qin a (qn pl))) : JC x tb mX5_hasVillage d [.ref (x.2.2.2 p), .int a] M (jZ P) := by
  refine b_X5_hasVillage a0 ?_
  rw [hp.n]
  exact qin_br (A := P M) (by have := hp.wf.2.2.2.1; omega) h
theorem k_hasSet {P : jM → Bool → Prop} {a : Int32} (a0 : aX5 tb p) (hp : cPl M p pl) (h : P M (qin a (2 ^ qn pl))) : JC x tb mX5_hasSet d [.ref (x.2.2.2 p), .int a] M (jZ P) := by
  refine b_X5_hasSet a0 ?_
  have h6 := hp.wf.2.2.2.1
  rw [hp.n, nI_shl1 _ (by omega)]
  exact qin_br (A := P M) (Nat.lt_of_le_of_lt (Nat.pow_le_pow_right (by decide) h6) (by decide)) h
theorem k_hasStrip {P : jM → Bool → Prop} {a b : Int32} (a0 : aX5 tb p) (hp : cPl M p pl) (h : P M (qin a (qn pl) && qin b (qSt pl a.toNatClampNeg))) : JC x tb mX5_hasStrip (d + 2) [.ref (x.2.2.2 p), .int a, .int b] M (jZ P) := by
  have h6 := hp.wf.2.2.2.1
  refine b_X5_hasStrip a0 (k_hasVillage a0 hp ⟨fun c => ?_, fun c => ?_⟩)
  · rw [c] at h; exact h
  · rw [c, Bool.true_and] at h
    obtain ⟨v, hv, rfl⟩ := qin_t c
    rw [nI_clamp (by omega)] at h
    have h9 := qSt_le hp.wf v
    have := qin_br (a := b) (n := qSt pl v) (A := P M) (by omega) h
    refine ⟨fun c => this.1 c, fun c => k_stripsOf a0 hp hv (this.2 c)⟩
theorem k_villageNamed {P : jM → Int32 → Prop} {a : Int64} (a0 : aX5 tb p) (hp : cPl M p pl) (h : P M (if qNm pl a < qn pl then nI (qNm pl a) else -1)) : JC x tb mX5_villageNamed d [.ref (x.2.2.2 p), .long a] M (jI P) := by
  have h6 := hp.wf.2.2.2.1
  refine b_X5_villageNamed ?_
  refine jloop (fun i (_ : Unit) => JW x tb mX5_villageNamed d (jI P) 2 [(0, .ref (x.2.2.2 p)), (1, .long a), (3, .int (nI i))] [] M) (fun i _ => ∀ j, j < i → decide (qName pl j = a) = false) (qn pl) ?_ ?_ 0 () (Nat.zero_le _) (fun j hj => absurd hj (Nat.not_lt_zero _))
  · rintro _ hI
    refine b_X5_villageNamed_2 a0 ?_
    rw [hp.n]
    refine pk_le (qn pl) (qn pl) (fun _ => ?_) (fun c => absurd c (by omega))
    rw [if_neg (by unfold qNm; rw [qFst_no hI]; omega)] at h
    exact h
  · rintro i _ hi hI ih
    refine b_X5_villageNamed_2 a0 ?_
    rw [hp.n]
    refine pk_le (qn pl) i (fun c => absurd c (by omega)) (fun _ => ⟨i, by omega, rfl, ?_⟩)
    rw [hp.name hi, nI_1]
    refine ⟨fun c => ih () (fun j hj => ?_), fun c => ?_⟩
    · rcases Nat.lt_or_ge j i with q | q
      · exact hI j q
      · obtain rfl : j = i := by omega
        exact decide_eq_false c
    · have e : qNm pl a = i := qFst_at hI (decide_eq_true c) hi
      rw [e, if_pos hi] at h
      exact h
theorem k_stripsPromised {P : jM → Int32 → Prop} {set : Nat} (a0 : aX5 tb p) (hp : cPl M p pl) (h : P M (nI (qSP pl set (qn pl)))) : JC x tb mX5_stripsPromised (d + 2) [.ref (x.2.2.2 p), .int (nI set)] M (jI P) := by
  have h6 := hp.wf.2.2.2.1
  refine b_X5_stripsPromised ?_
  refine jloop (fun i (a : Int32) => JW x tb mX5_stripsPromised (d + 2) (jI P) 4 [(0, .ref (x.2.2.2 p)), (1, .int (nI set)), (2, .int a), (3, .int (nI i))] [] M) (fun i a => a = nI (qSP pl set i)) (qn pl) ?_ ?_ 0 0 (Nat.zero_le _) rfl
  · rintro _ rfl
    refine b_X5_stripsPromised_4 a0 ?_
    rw [hp.n]
    exact pk_le (qn pl) (qn pl) (fun _ => h) (fun c => absurd c (by omega))
  · rintro i _ hi rfl ih
    refine b_X5_stripsPromised_4 a0 ?_
    rw [hp.n, hp.k, nI_shl1 _ (by omega), fa_and, fa_bit (by omega), nI_1]
    refine pk_le (qn pl) i (fun c => absurd c (by omega)) (fun _ => ⟨fun c => ?_, fun c => k_stripsOf a0 hp hi ?_⟩)
    · rw [jn0, nI_add]
      refine ih _ ?_
      simp [qSP, c]
    · rw [nI_add]
      refine ih _ ?_
      simp [qSP, Bool.not_eq_false _ ▸ c]
theorem k_firstUnlikeStrip {P : jM → Int32 → Prop} {o n v : Nat} {f : Nat → Nat} (a0 : aX5 tb p) (hp : cPl M p pl) (so : js tb o = (20, n)) (hn : n < 2 ^ 31) (hcn : qc pl ≤ n) (hf : ∀ c, c < qc pl → M.1 o c = nI (f c)) (hb : ∀ c, f c ≤ 99) (hv : v < qn pl) (hk : (qk pl).testBit v = true) (ho : p + 8 ≠ o)
    (h : ∀ M', jsame (fun q => q = p + 8) M M' → M'.2 = M.2 → P M' (if qUs pl f v < qSt pl v then nI (qUs pl f v) else -1)) : JC x tb mX5_firstUnlikeStrip (d + 2) [.ref (x.2.2.2 p), .int (nI v), .ref (x.2.2.2 o)] M (jI P) := by
  have h6 := hp.wf.2.2.2.1
  obtain ⟨w1, w2, w3⟩ := qn_pos hp.wf hv
  have h9 := qSt_le hp.wf v
  have s8 : js tb (p + 8) = (20, 9) := a0.2.2.2.2.2.2.2.2
  refine b_X5_firstUnlikeStrip a0 ⟨v, by omega, rfl, ?_⟩
  rw [hp.side hv]
  refine k_lookFrom (a := 0) a0 hp so hn s8 (by omega) hcn hf hb (hp.wf.2.2.2.2.2.2.2.2.2.1 v) ho (by omega) (by have : qS (qw pl) (qh pl) (qSide pl v) ≤ 9 := h9; omega) w3 ?_
  intro M1 e1 e2 e3 e4
  have hp1 : cPl M1 p pl := hp.keep (fun q q1 q2 => (e1 q (by omega)).1) (by rw [e4])
  refine jloop (fun i (_ : Unit) => JW x tb mX5_firstUnlikeStrip (d + 2) (jI P) 18 [(0, .ref (x.2.2.2 p)), (1, .int (nI v)), (3, .int (nI i))] [] M1) (fun i _ => ∀ s, s < i → decide (¬ qG (qw pl) (qh pl) (qSide pl v) s f (qc pl) = qLine pl v s) = false) (qSt pl v) ?_ ?_ 0 () (Nat.zero_le _) (fun j hj => absurd hj (Nat.not_lt_zero _))
  · rintro _ hI
    refine b_X5_firstUnlikeStrip_18 a0 (k_stripsOf a0 hp1 hv ?_)
    refine pk_le (qSt pl v) (qSt pl v) (fun _ => ?_) (fun c => absurd c (by omega))
    have := h M1 e1 e4
    rw [if_neg (by unfold qUs; rw [qFst_no hI]; omega)] at this
    exact this
  · rintro i _ hi hI ih
    refine b_X5_firstUnlikeStrip_18 a0 (k_stripsOf a0 hp1 hv ?_)
    refine pk_le (qSt pl v) i (fun c => absurd c (by omega)) (fun _ => ⟨i, by omega, rfl, v * 9 + i, by omega, by rw [jn9, pk_mul, nI_add], ?_⟩)
    have e5 := e2 i hi
    rw [Nat.zero_add] at e5
    rw [e5, hp1.line hv hk hi, nI_1]
    have g1 := qG_le (w := qw pl) (h := qh pl) (side := qSide pl v) (s := i) hb (qc pl)
    have g2 := hp.wf.2.2.2.2.2.2.2.2.2.2 v i
    rw [nI_eq (by omega) (by omega)]
    refine ⟨fun c => ih () (fun j hj => ?_), fun c => ?_⟩
    · rcases Nat.lt_or_ge j i with q | q
      · exact hI j q
      · obtain rfl : j = i := by omega
        simp [c]
    · have e : qUs pl f v = i := qFst_at hI (decide_eq_true c) hi
      have := h M1 e1 e4
      rw [e, if_pos hi] at this
      exact this
theorem k_firstUnlikeVillage {P : jM → Int32 → Prop} {o n : Nat} {f : Nat → Nat} (a0 : aX5 tb p) (hp : cPl M p pl) (so : js tb o = (20, n)) (hn : n < 2 ^ 31) (hcn : qc pl ≤ n) (hf : ∀ c, c < qc pl → M.1 o c = nI (f c)) (hb : ∀ c, f c ≤ 99) (ho : p + 8 ≠ o)
    (h : ∀ M', jsame (fun q => q = p + 8) M M' → M'.2 = M.2 → P M' (if qUv pl f < qn pl then nI (qUv pl f) else -1)) : JC x tb mX5_firstUnlikeVillage (d + 3) [.ref (x.2.2.2 p), .ref (x.2.2.2 o)] M (jI P) := by
  have h6 := hp.wf.2.2.2.1
  refine b_X5_firstUnlikeVillage ?_
  refine jloop (fun i (M' : jM) => JW x tb mX5_firstUnlikeVillage (d + 3) (jI P) 2 [(0, .ref (x.2.2.2 p)), (1, .ref (x.2.2.2 o)), (2, .int (nI i))] [] M') (fun i M' => jsame (fun q => q = p + 8) M M' ∧ M'.2 = M.2 ∧ ∀ v, v < i → ((qk pl).testBit v && decide (qUs pl f v < qSt pl v)) = false) (qn pl) ?_ ?_ 0 M (Nat.zero_le _) ⟨jsame.rf, rfl, fun j hj => absurd hj (Nat.not_lt_zero _)⟩
  · rintro M1 ⟨e1, e2, hI⟩
    refine b_X5_firstUnlikeVillage_2 a0 ?_
    rw [(e1 p (by omega)).1, hp.n]
    refine pk_le (qn pl) (qn pl) (fun _ => ?_) (fun c => absurd c (by omega))
    have := h M1 e1 e2
    rw [if_neg (by unfold qUv; rw [qFst_no hI]; omega)] at this
    exact this
  · rintro i M1 hi ⟨e1, e2, hI⟩ ih
    have hp1 : cPl M1 p pl := hp.keep (fun q q1 q2 => (e1 q (by omega)).1) (by rw [e2])
    refine b_X5_firstUnlikeVillage_2 a0 ?_
    rw [hp1.n, nI_1]
    refine pk_le (qn pl) i (fun c => absurd c (by omega)) (fun _ => k_hasSky a0 hp1 (by omega) ⟨fun c => ?_, fun c => ?_⟩)
    · refine ih _ ⟨e1, e2, fun j hj => ?_⟩
      rcases Nat.lt_or_ge j i with q | q
      · exact hI j q
      · obtain rfl : j = i := by omega
        rw [c]; rfl
    · refine k_firstUnlikeStrip a0 hp1 so hn hcn (fun c hc => by rw [(e1 o (fun z => ho z.symm)).1]; exact hf c hc) hb hi c ho ?_
      intro M2 g1 g2
      have h9 := qSt_le hp.wf i
      by_cases q : qUs pl f i < qSt pl i
      · rw [if_pos q]
        refine ⟨fun z => ?_, fun _ => ?_⟩
        · have := congrArg Int32.toInt z
          rw [nI_toInt (by omega)] at this
          have e : (-1 : Int32).toInt = -1 := rfl
          omega
        · have e : qUv pl f = i := qFst_at hI (by rw [c, decide_eq_true q]; rfl) hi
          have := h M2 (e1.tr g1) (g2.trans e2)
          rw [e, if_pos hi] at this
          exact this
      · rw [if_neg q]
        refine ⟨fun _ => ih _ ⟨e1.tr g1, g2.trans e2, fun j hj => ?_⟩, fun z => absurd rfl z⟩
        rcases Nat.lt_or_ge j i with q2 | q2
        · exact hI j q2
        · obtain rfl : j = i := by omega
          rw [decide_eq_false q, Bool.and_false]
end KP3
