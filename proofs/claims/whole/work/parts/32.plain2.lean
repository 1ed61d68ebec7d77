theorem qF_lt {w h side c : Nat} (hs : side < 8) (hc : c < w * h) : qF w h side c < qS w h side := by
  have hw : 0 < w := by rcases Nat.eq_zero_or_pos w with e | e; (rw [e, Nat.zero_mul] at hc; omega); exact e
  have h1 : c % w < w := Nat.mod_lt c hw
  have h2 : c / w < h := Nat.div_lt_of_lt_mul hc
  rcases (show side = 0 ∨ side = 1 ∨ side = 2 ∨ side = 3 ∨ side = 4 ∨ side = 5 ∨ side = 6 ∨ side = 7 by omega) with rfl | rfl | rfl | rfl | rfl | rfl | rfl | rfl <;> simp only [qF, qS] <;> revert h1 h2 <;> generalize c % w = a <;> generalize c / w = b <;> intro h1 h2 <;> simp <;> omega
theorem qS_le {w h side : Nat} (hw : w ≤ 5) (hh : h ≤ 5) : qS w h side ≤ 9 := by unfold qS; split; omega; split <;> omega
theorem qSt_le {pl : qP} (h : qWf pl) (v : Nat) : qSt pl v ≤ 9 := qS_le h.1 h.2.1
theorem qn_pos {pl : qP} (h : qWf pl) {v : Nat} (hv : v < qn pl) : 0 < qw pl ∧ 0 < qh pl ∧ 0 < qc pl := by
  have h1 := h.2.2.2.2.2.1
  have h2 := h.2.2.1
  have a : 0 < qw pl := by omega
  have b : 0 < qh pl := by omega
  exact ⟨a, b, Nat.mul_pos a b⟩
/-- the first that is so, or n -/
def qFst (p : Nat → Bool) : Nat → Nat
  | 0 => 0
  | n + 1 => if qFst p n < n then qFst p n else if p n then n else n + 1
theorem qFst_no {p : Nat → Bool} : ∀ {n : Nat}, (∀ j, j < n → p j = false) → qFst p n = n
  | 0, _ => rfl
  | n + 1, h => by
    have h1 := qFst_no (p := p) (n := n) (fun j hj => h j (by omega))
    show (if qFst p n < n then _ else if p n then n else n + 1) = n + 1
    rw [h1, if_neg (by omega), h n (by omega)]
    rfl
theorem qFst_at {p : Nat → Bool} {i : Nat} (h : ∀ j, j < i → p j = false) (hi : p i = true) : ∀ {n : Nat}, i < n → qFst p n = i
  | 0, q => absurd q (Nat.not_lt_zero _)
  | n + 1, q => by
    show (if qFst p n < n then _ else if p n then n else n + 1) = i
    rcases Nat.lt_or_ge i n with g | g
    · have h1 := qFst_at h hi g
      rw [h1, if_pos g]
    · obtain rfl : i = n := by omega
      rw [qFst_no h, if_neg (by omega), hi]
      rfl
theorem qFst_le (p : Nat → Bool) : ∀ n, qFst p n ≤ n
  | 0 => Nat.le_refl _
  | n + 1 => by
    have h1 := qFst_le p n
    show (if qFst p n < n then qFst p n else if p n then n else n + 1) ≤ n + 1
    split
    · omega
    · split <;> omega
theorem qFst_yes {p : Nat → Bool} : ∀ {n : Nat}, qFst p n < n → p (qFst p n) = true ∧ ∀ j, j < qFst p n → p j = false
  | 0, h => absurd h (Nat.not_lt_zero _)
  | n + 1, h => by
    have e : qFst p (n + 1) = if qFst p n < n then qFst p n else if p n then n else n + 1 := rfl
    by_cases c : qFst p n < n
    · rw [if_pos c] at e
      rw [e]
      exact qFst_yes c
    · rw [if_neg c] at e
      have hn : qFst p n = n := by have := qFst_le p n; omega
      by_cases c2 : p n = true
      · rw [if_pos c2] at e
        rw [e]
        refine ⟨c2, fun j hj => ?_⟩
        cases hp : p j with
        | false => rfl
        | true =>
          exfalso
          obtain ⟨i, hi, hpi, hlt⟩ : ∃ i, i < n ∧ p i = true ∧ ∀ k, k < i → p k = false := by
            clear e h c2 c hn
            revert hj hp
            induction j using Nat.strongRecOn with
            | _ j ih =>
              intro hj hp
              by_cases q : ∃ k, k < j ∧ p k = true
              · obtain ⟨k, k1, k2⟩ := q
                exact ih k k1 (by omega) k2
              · exact ⟨j, hj, hp, fun k hk => by cases z : p k with
                  | false => rfl
                  | true => exact absurd ⟨k, hk, z⟩ q⟩
          have := qFst_at hlt hpi hi
          omega
      · rw [if_neg c2] at e
        omega
def qUs (pl : qP) (f : Nat → Nat) (v : Nat) : Nat := qFst (fun s => decide (¬ qG (qw pl) (qh pl) (qSide pl v) s f (qc pl) = qLine pl v s)) (qSt pl v)
def qUv (pl : qP) (f : Nat → Nat) : Nat := qFst (fun v => (qk pl).testBit v && decide (qUs pl f v < qSt pl v)) (qn pl)
/-- one bit of a number -/
theorem nI_bit (n : Nat) {v : Nat} (hn : n < 2 ^ 31) (hv : v < 31) : (nI n >>> (nI v &&& 31)) &&& 1 = nI (n >>> v % 2) := by
  have e1 : ((nI v &&& 31).toBitVec.smod 32).toNat = v := by
    have : ∀ k, k < 31 → ((nI k &&& 31).toBitVec.smod 32).toNat = k := by decide +kernel
    exact this v hv
  rw [pk_shrN hn _ v e1, ← Nat.shiftRight_eq_div_pow]
  have h2 : n >>> v < 2 ^ 32 := by
    rw [Nat.shiftRight_eq_div_pow]
    exact Nat.lt_of_le_of_lt (Nat.div_le_self _ _) (by omega)
  rw [pk_andN h2 1 (by decide)]
theorem nI_testBit (n : Nat) {v : Nat} (hn : n < 2 ^ 31) (hv : v < 31) : ((nI n >>> (nI v &&& 31)) &&& (1 : Int32)) = (1 : Int32) ↔ n.testBit v = true := by
  rw [nI_bit n hn hv, jn1, nI_eq (by omega) (by omega)]
  simp [Nat.testBit, Nat.and_comm 1, Nat.and_one_is_mod]
section KP2
variable {x : jX} {tb : jT} {d : Nat} {M : jM} {p : Nat} {pl : qP}
theorem qk_lt {pl : qP} (h : qWf pl) : qk pl < 64 := Nat.lt_of_lt_of_le h.2.2.2.2.1 (Nat.pow_le_pow_right (by decide) h.2.2.2.1)
theorem k_hasSky {P : jM → Bool → Prop} {v : Nat} (a0 : aX5 tb p) (hp : cPl M p pl) (hv : v < 31) (h : P M ((qk pl).testBit v)) : JC x tb mX5_hasSky d [.ref (x.2.2.2 p), .int (nI v)] M (jZ P) := by
  have h64 := qk_lt hp.wf
  refine b_X5_hasSky a0 ?_
  rw [hp.k, nI_testBit _ (by omega) hv]
  refine ⟨fun c => ?_, fun c => ?_⟩
  · rw [Bool.eq_false_iff.mpr c] at h; exact h
  · rw [c] at h; exact h
theorem k_sightOf {P : jM → Int32 → Prop} {o n v s : Nat} {f : Nat → Nat} (a0 : aX5 tb p) (hp : cPl M p pl) (so : js tb o = (20, n)) (hn : n < 2 ^ 31) (hcn : qc pl ≤ n) (hf : ∀ c, c < qc pl → M.1 o c = nI (f c)) (hb : ∀ c, f c ≤ 99) (hv : v < qn pl) (hs : s < 2 ^ 31) (h : P M (nI (qG (qw pl) (qh pl) (qSide pl v) s f (qc pl)))) : JC x tb mX5_sightOf (d + 1) [.ref (x.2.2.2 p), .int (nI v), .int (nI s), .ref (x.2.2.2 o)] M (jI P) := by
  have h25 := hp.wf.c25
  have h6 := hp.wf.2.2.2.1
  refine b_X5_sightOf ?_
  refine jloop (fun i (a : Int32) => JW x tb mX5_sightOf (d + 1) (jI P) 6 [(0, .ref (x.2.2.2 p)), (1, .int (nI v)), (2, .int (nI s)), (3, .ref (x.2.2.2 o)), (4, .int a), (5, .int (nI i))] [] M) (fun i a => a = nI (qG (qw pl) (qh pl) (qSide pl v) s f i)) (qc pl) ?_ ?_ 0 0 (Nat.zero_le _) rfl
  · rintro _ rfl
    refine b_X5_sightOf_6 a0 so hn ?_
    rw [hp.c]
    exact pk_le (qc pl) (qc pl) (fun _ => h) (fun c => absurd c (by omega))
  · rintro i _ hi rfl ih
    refine b_X5_sightOf_6 a0 so hn ?_
    rw [hp.c]
    refine pk_le (qc pl) i (fun c => absurd c (by omega)) (fun _ => ⟨v, by omega, rfl, ?_⟩)
    rw [hp.side hv]
    have hF := qF_lt (hp.wf.2.2.2.2.2.2.2.2.2.1 v) hi
    have h9 := qS_le (side := qSide pl v) hp.wf.1 hp.wf.2.1
    refine k_stripAt a0 hp (hp.wf.2.2.2.2.2.2.2.2.2.1 v) hi ?_
    have ihs := ih _ rfl
    rw [nI_1]
    refine ⟨fun c => ?_, fun c => ⟨i, by omega, rfl, ?_⟩⟩
    · rw [nI_eq (by omega) hs] at c
      simpa [qG, c] using ihs
    · rw [nI_eq (by omega) hs] at c
      rw [hf i hi]
      have := hb i
      have := qG_le (w := qw pl) (h := qh pl) (side := qSide pl v) (s := s) hb i
      refine k_maxN (by omega) (by omega) ?_
      simpa [qG, c] using ihs
theorem k_lookFrom {P : jM → Prop} {o n o3 n3 a side : Nat} {f : Nat → Nat} (a0 : aX5 tb p) (hp : cPl M p pl) (so : js tb o = (20, n)) (hn : n < 2 ^ 31) (s3 : js tb o3 = (20, n3)) (hn3 : n3 < 2 ^ 31) (hcn : qc pl ≤ n) (hf : ∀ c, c < qc pl → M.1 o c = nI (f c)) (hb : ∀ c, f c ≤ 99) (hs : side < 8) (ho : o3 ≠ o) (hop : o3 < p ∨ p + 8 ≤ o3) (ha : a + qS (qw pl) (qh pl) side ≤ n3) (hc0 : 0 < qc pl)
    (h : ∀ M', jsame (fun q => q = o3) M M' → (∀ s, s < qS (qw pl) (qh pl) side → M'.1 o3 (a + s) = nI (qG (qw pl) (qh pl) side s f (qc pl))) → (∀ k, (k < a ∨ a + qS (qw pl) (qh pl) side ≤ k) → M'.1 o3 k = M.1 o3 k) → M'.2 = M.2 → P M') : JC x tb mX5_lookFrom (d + 1) [.ref (x.2.2.2 p), .int (nI side), .ref (x.2.2.2 o), .ref (x.2.2.2 o3), .int (nI a)] M (jV P) := by
  have h25 := hp.wf.c25
  have h9 := qS_le (side := side) hp.wf.1 hp.wf.2.1
  refine b_X5_lookFrom a0 (k_stripsFrom a0 hp hs ?_)
  rw [if_neg (by omega)]
  generalize hN : qS (qw pl) (qh pl) side = N at *
  refine jloop (fun i (M' : jM) => JW x tb mX5_lookFrom (d + 1) (jV P) 10 [(0, .ref (x.2.2.2 p)), (1, .int (nI side)), (2, .ref (x.2.2.2 o)), (3, .ref (x.2.2.2 o3)), (4, .int (nI a)), (5, .int (nI N)), (6, .int (nI i))] [] M') (fun i M' => jsame (fun q => q = o3) M M' ∧ (∀ s, s < i → M'.1 o3 (a + s) = 0) ∧ (∀ k, (k < a ∨ a + i ≤ k) → M'.1 o3 k = M.1 o3 k) ∧ M'.2 = M.2) N ?_ ?_ 0 M (Nat.zero_le _) ⟨jsame.rf, fun s hs => absurd hs (Nat.not_lt_zero _), fun _ _ => rfl, rfl⟩
  · rintro M1 ⟨e1, e2, e3, e4⟩
    refine b_X5_lookFrom_10 s3 hn3 (pk_le N N (fun _ => ?_) (fun c => absurd c (by omega)))
    refine jloop (fun i (M' : jM) => JW x tb mX5_lookFrom (d + 1) (jV P) 34 [(0, .ref (x.2.2.2 p)), (1, .int (nI side)), (2, .ref (x.2.2.2 o)), (3, .ref (x.2.2.2 o3)), (4, .int (nI a)), (6, .int (nI i))] [] M') (fun i M' => jsame (fun q => q = o3) M M' ∧ (∀ s, s < N → M'.1 o3 (a + s) = nI (qG (qw pl) (qh pl) side s f i)) ∧ (∀ k, (k < a ∨ a + N ≤ k) → M'.1 o3 k = M.1 o3 k) ∧ M'.2 = M.2) (qc pl) ?_ ?_ 0 M1 (Nat.zero_le _) ⟨e1, e2, e3, e4⟩
    · rintro M2 ⟨g1, g2, g3, g4⟩
      refine b_X5_lookFrom_34 a0 so hn s3 hn3 ?_
      rw [(g1 p (by omega)).1, hp.c]
      exact pk_le (qc pl) (qc pl) (fun _ => h M2 g1 g2 g3 g4) (fun c => absurd c (by omega))
    · rintro i M2 hi ⟨g1, g2, g3, g4⟩ ih
      have hp2 : cPl M2 p pl := hp.keep (fun q q1 q2 => (g1 q (by omega)).1) (by rw [g4])
      refine b_X5_lookFrom_34 a0 so hn s3 hn3 ?_
      rw [hp2.c]
      refine pk_le (qc pl) i (fun c => absurd c (by omega)) (fun _ => k_stripAt a0 hp2 hs hi ?_)
      have hF := qF_lt hs hi
      rw [hN] at hF
      refine ⟨a + qF (qw pl) (qh pl) side i, by omega, nI_add _ _, i, by omega, rfl, ?_⟩
      rw [g2 _ hF, (g1 o (fun z => ho z.symm)).1, hf i hi]
      have := hb i
      have := qG_le (w := qw pl) (h := qh pl) (side := side) (s := qF (qw pl) (qh pl) side i) hb i
      refine k_maxN (by omega) (by omega) ?_
      rintro M3 rfl
      rw [nI_1]
      refine ih _ ⟨g1.tr (jsame.I rfl), fun s hs => ?_, fun k hk => ?_, g4⟩
      · rw [jrI_s]
        by_cases c : s = qF (qw pl) (qh pl) side i
        · subst c
          rw [pk_us]
          simp [qG]
        · rw [pk_un (by omega), g2 s hs]
          show _ = nI (if qF (qw pl) (qh pl) side i = s then _ else _)
          rw [if_neg (fun z => c z.symm)]
      · rw [jrI_s, pk_un (by omega)]
        exact g3 k hk
  · rintro i M1 hi ⟨e1, e2, e3, e4⟩ ih
    refine b_X5_lookFrom_10 s3 hn3 (pk_le N i (fun c => absurd c (by omega)) (fun _ => ⟨a + i, by omega, nI_add _ _, ?_⟩))
    rintro M2 rfl
    rw [nI_1]
    refine ih _ ⟨e1.tr (jsame.I rfl), fun s hs => ?_, fun k hk => ?_, e4⟩
    · rw [jrI_s]
      by_cases c : s = i
      · rw [c, pk_us]
      · rw [pk_un (by omega), e2 s (by omega)]
    · rw [jrI_s, pk_un (by omega)]
      exact e3 k (by omega)
end KP2
