/-! down of the model; what is struck -/
theorem nI_jb {n k : Nat} (hn : n < 2 ^ 31) (hk : k < 31) : ((nI n >>> (nI k &&& 31)) &&& (1 : Int32)) = jb (n.testBit k) := by
  have h := nI_testBit n hn hk
  rw [nI_bit n hn hk] at h ⊢
  rcases (show n >>> k % 2 = 0 ∨ n >>> k % 2 = 1 by omega) with q | q
  · rw [q] at h ⊢
    cases e : n.testBit k
    · rfl
    · exact absurd (h.mpr e) (by decide)
  · rw [q] at h ⊢
    rw [h.mp rfl]; rfl
theorem nI_andn {a s : Nat} (ha : a < 2 ^ 32) : nI a &&& (nI s ^^^ (-1 : Int32)) = nI (a ^^^ (a &&& s)) := by
  rw [show (-1 : Int32) = nI (2 ^ 32 - 1) from by decide +kernel, fb_xorI, fa_and]
  congr 1
  apply Nat.eq_of_testBit_eq
  intro i
  rw [Nat.testBit_and, Nat.testBit_xor, Nat.testBit_xor, Nat.testBit_and, Nat.testBit_two_pow_sub_one]
  by_cases h : i < 32
  · rw [decide_eq_true h]
    cases a.testBit i <;> cases s.testBit i <;> rfl
  · rw [Nat.testBit_lt_two_pow (Nat.lt_of_lt_of_le ha (Nat.pow_le_pow_right (by decide) (by omega)))]
    cases s.testBit i <;> rfl
def oI : Option Nat → Int32
  | none => -1
  | some s => nI s
def qBest (ok : Nat → Bool) : Nat → Option Nat
  | 0 => none
  | s + 1 => match qBest ok s with
    | none => if ok s then some s else none
    | some b => if qPop s < qPop b then (if ok s then some s else some b) else some b
theorem qBest_lt {ok : Nat → Bool} : ∀ {n b : Nat}, qBest ok n = some b → b < n ∧ ok b = true
  | 0, b, h => by cases h
  | n + 1, b, h => by
    rw [qBest] at h
    have ih := @qBest_lt ok n
    revert h ih
    cases qBest ok n with
    | none =>
      intro h ih
      dsimp only at h
      split at h
      · next q => cases h; exact ⟨by omega, q⟩
      · cases h
    | some c =>
      intro h ih
      dsimp only at h
      split at h
      · split at h
        · next q => cases h; exact ⟨by omega, q⟩
        · cases h; have := ih rfl; exact ⟨by omega, this.2⟩
      · cases h; have := ih rfl; exact ⟨by omega, this.2⟩
theorem qBest_le {ok : Nat → Bool} {t : Nat} (ht : ok t = true) : ∀ {n : Nat}, t < n → ∃ b, qBest ok n = some b ∧ qPop b ≤ qPop t
  | 0, h => absurd h (Nat.not_lt_zero _)
  | n + 1, h => by
    rw [qBest]
    by_cases e : t = n
    · subst e
      cases qBest ok t with
      | none => exact ⟨t, by dsimp only; rw [if_pos ht], Nat.le_refl _⟩
      | some c =>
        dsimp only
        split
        · exact ⟨t, by first | rfl | rw [if_pos ht], Nat.le_refl _⟩
        · exact ⟨c, rfl, by omega⟩
    · obtain ⟨b, hb, hl⟩ := qBest_le ht (n := n) (by omega)
      rw [hb]
      dsimp only
      split
      · split
        · exact ⟨n, rfl, by omega⟩
        · exact ⟨b, rfl, hl⟩
      · exact ⟨b, rfl, hl⟩
theorem qBest_take {ok : Nat → Bool} {s : Nat} (h : ok s = true) (h2 : ∀ t, qBest ok s = some t → qPop s < qPop t) : qBest ok (s + 1) = some s := by
  rw [qBest]
  cases e : qBest ok s with
  | none => dsimp only; rw [if_pos h]
  | some t => dsimp only; rw [if_pos (h2 t e), if_pos h]
theorem qBest_no {ok : Nat → Bool} {s : Nat} (h : ok s = false) : qBest ok (s + 1) = qBest ok s := by
  rw [qBest]
  cases e : qBest ok s with
  | none => dsimp only; rw [h]; rfl
  | some t => dsimp only; rw [h]; split <;> rfl
theorem qBest_more {ok : Nat → Bool} {s t : Nat} (h : qBest ok s = some t) (h2 : qPop t ≤ qPop s) : qBest ok (s + 1) = qBest ok s := by
  rw [qBest, h]
  dsimp only
  rw [if_neg (by omega)]
theorem jloop2 {α β : Type} (G : Nat → α → β → Prop) (I : Nat → α → β → Prop) (N : Nat) (hx : ∀ M a, I N M a → G N M a) (hs : ∀ i M a, i < N → I i M a → (∀ M' a', I (i + 1) M' a' → G (i + 1) M' a') → G i M a) : ∀ i M a, i ≤ N → I i M a → G i M a :=
  fun i M a hi h => jloop (fun k (s : α × β) => G k s.1 s.2) (fun k s => I k s.1 s.2) N (fun s hs' => hx s.1 s.2 hs') (fun k s hk h1 h2 => hs k s.1 s.2 hk h1 (fun M' a' h' => h2 (M', a') h')) i (M, a) hi h
theorem qPop_sub {s t : Nat} (h : s < 2 ^ 32) (hs : t &&& s = t) (hn : t ≠ s) : qPop t < qPop s := by
  have bit : ∀ k, t.testBit k = true → s.testBit k = true := fun k hk => by
    rw [← hs, Nat.testBit_and] at hk
    revert hk; cases t.testBit k <;> simp
  obtain ⟨k, hk⟩ : ∃ k, t.testBit k ≠ s.testBit k := by
    apply Classical.byContradiction
    intro c
    exact hn (Nat.eq_of_testBit_eq (fun i => Classical.byContradiction (fun q => c ⟨i, q⟩)))
  have h1 : t.testBit k = false ∧ s.testBit k = true := by
    have := bit k
    revert hk this
    cases t.testBit k <;> cases s.testBit k <;> simp
  have hk32 : k < 32 := by
    apply Classical.byContradiction
    intro c
    rw [Nat.testBit_lt_two_pow (Nat.lt_of_lt_of_le h (Nat.pow_le_pow_right (by decide) (by omega)))] at h1
    exact absurd h1.2 (by decide)
  unfold qPop
  have e := fb_ct_upd t.testBit true (i := k) (n := 32) hk32
  have l := fb_ct_sub (p := fun j => if j = k then true else t.testBit j) (q := s.testBit) (n := 32) (fun j _ hj => by
    by_cases q : j = k
    · rw [q]; exact h1.2
    · rw [if_neg q] at hj; exact bit j hj)
  rw [h1.1] at e
  have e' : fb_ct (fun j => if j = k then true else t.testBit j) 32 + 0 = fb_ct t.testBit 32 + 1 := e
  omega
theorem qBest_same {ok ok' : Nat → Bool} (N : Nat) (h : ∀ s, s < N → ok' s = true → ok s = true) (h2 : ∀ s, s < N → ok s = true → ok' s = false → ∃ t, t < s ∧ ok t = true ∧ qPop t ≤ qPop s) : ∀ n, n ≤ N → qBest ok n = qBest ok' n
  | 0, _ => rfl
  | n + 1, hn => by
    have ih := qBest_same N h h2 n (by omega)
    rw [qBest, qBest, ← ih]
    cases e' : ok' n with
    | true => rw [h n (by omega) e']
    | false =>
      cases e : ok n with
      | false => rfl
      | true =>
        obtain ⟨t, t1, t2, t3⟩ := h2 n (by omega) e e'
        obtain ⟨b, b1, b2⟩ := qBest_le t2 t1
        rw [b1]
        dsimp only
        rw [if_neg (by omega), if_neg (by omega)]
theorem qBest_stop {ok : Nat → Bool} {m : Nat} (h : ∀ s, m ≤ s → ok s = false) : ∀ k, qBest ok (m + k) = qBest ok m
  | 0 => rfl
  | k + 1 => by
    rw [show m + (k + 1) = (m + k) + 1 from rfl, qBest, qBest_stop h k, h (m + k) (by omega)]
    cases qBest ok m with
    | none => rfl
    | some b => dsimp only; split <;> rfl
/-- without the villages of s -/
def qOkC (pl : qP) (s : Nat) : Bool := pCan pl ((2 ^ qn pl - 1) ^^^ ((2 ^ qn pl - 1) &&& s))
def qOkM (pl : qP) (s : Nat) : Bool := decide (s &&& qk pl = s) && pCan pl (qk pl ^^^ (qk pl &&& s))
theorem qk_bit {pl : qP} (w : qWf pl) {i : Nat} (h : (qk pl).testBit i = true) : i < qn pl := by
  apply Classical.byContradiction
  intro c
  rw [Nat.testBit_lt_two_pow (Nat.lt_of_lt_of_le w.2.2.2.2.1 (Nat.pow_le_pow_right (by decide) (by omega)))] at h
  exact absurd h (by decide)
theorem pCan_cong {pl : qP} {a b : Nat} (h : a &&& qk pl = b &&& qk pl) : pCan pl a = pCan pl b := by
  unfold pCan pCp pAsk
  rw [h]
theorem okC_k {pl : qP} (w : qWf pl) (s : Nat) : qOkC pl s = pCan pl (qk pl ^^^ (qk pl &&& s)) := by
  refine pCan_cong ?_
  apply Nat.eq_of_testBit_eq
  intro i
  have q := @qk_bit pl w i
  simp only [Nat.testBit_and, Nat.testBit_xor, Nat.testBit_two_pow_sub_one]
  revert q
  cases (qk pl).testBit i
  · intro _; simp
  · intro q; rw [decide_eq_true (q rfl)]
theorem okC_sub {pl : qP} (w : qWf pl) (s : Nat) : qOkC pl (s &&& qk pl) = qOkC pl s := by
  rw [okC_k w, okC_k w]
  congr 2
  apply Nat.eq_of_testBit_eq
  intro i
  simp only [Nat.testBit_and]
  cases s.testBit i <;> cases (qk pl).testBit i <;> rfl
theorem struck_same {pl : qP} (w : qWf pl) : qBest (qOkC pl) (2 ^ qn pl) = qBest (qOkM pl) (qk pl + 1) := by
  have h64 : 2 ^ qn pl ≤ 64 := Nat.pow_le_pow_right (by decide) w.2.2.2.1
  rw [qBest_same (ok' := qOkM pl) (2 ^ qn pl) (fun s _ h => ?_) (fun s hs h h' => ?_) _ (Nat.le_refl _)]
  · obtain ⟨k, hk⟩ : ∃ k, 2 ^ qn pl = (qk pl + 1) + k := ⟨2 ^ qn pl - (qk pl + 1), by have := w.2.2.2.2.1; omega⟩
    rw [hk, qBest_stop (fun s hs => ?_)]
    unfold qOkM
    rw [decide_eq_false, Bool.false_and]
    intro e
    have : s &&& qk pl ≤ qk pl := Nat.and_le_right
    omega
  · unfold qOkM at h
    rw [Bool.and_eq_true] at h
    rw [okC_k w]; exact h.2
  · have hsk : ¬ s &&& qk pl = s := fun e => by
      unfold qOkM at h'
      rw [okC_k w] at h
      rw [decide_eq_true e, h] at h'
      exact absurd h' (by decide)
    have l : s &&& qk pl ≤ s := Nat.and_le_left
    refine ⟨s &&& qk pl, by omega, by rw [okC_sub w]; exact h, Nat.le_of_lt (qPop_sub (by omega) ?_ hsk)⟩
    apply Nat.eq_of_testBit_eq
    intro i
    simp only [Nat.testBit_and]
    cases s.testBit i <;> cases (qk pl).testBit i <;> rfl
def sStruck (z : qZ) : qZ × Int32 := match qBest (qOkM (zP z)) (qk (zP z) + 1) with
  | none => rf z 9
  | some b => an z (nI b)
section STK
variable {x : jX} {d : Nat} {M : jM} {z : qZ}
theorem k_mBits {P : jM → Int32 → Prop} {n : Nat} (hn : n < 2 ^ 25) (h : P M (nI (qPop n))) : JC x jtbM mX12_bits d [.int (nI n)] M (jI P) := by
  have e : qPop n = fb_ct n.testBit 25 := by
    unfold qPop
    rw [show 32 = 25 + 7 from rfl, fb_ct_split, (fb_ct_zero (n := 7)).mpr (fun k _ => Nat.testBit_lt_two_pow (Nat.lt_of_lt_of_le hn (Nat.pow_le_pow_right (by decide) (by omega)))), Nat.add_zero]
  rw [e] at h
  refine b_X12_bits ?_
  refine jloop (fun i (a : Int32) => JW x jtbM mX12_bits d (jI P) 4 [(0, .int (nI n)), (1, .int a), (2, .int (nI i))] [] M) (fun i a => a = nI (fb_ct n.testBit i)) 25 ?_ ?_ 0 0 (Nat.zero_le _) rfl
  · rintro _ rfl
    exact b_X12_bits_4 (pk_le 25 25 (fun _ => h) (fun c => absurd c (by omega)))
  · rintro i _ hi rfl ih
    refine b_X12_bits_4 (pk_le 25 i (fun c => absurd c (by omega)) (fun _ => ?_))
    rw [nI_jb (by omega) (by omega), nI_1]
    refine ih _ ?_
    rw [fb_ct_succ]
    cases n.testBit i
    · show _ + nI 0 = _; rw [nI_add]; rfl
    · show _ + nI 1 = _; rw [nI_add]; rfl
theorem n_down {P : jM → Int32 → Prop} {a : Int32} (h : mI M z) (hP : ∀ M', mI M' (sDown z a).1 → P M' (sDown z a).2) : JC x jtbM mX12_down (d + 2) [.ref (x.2.2.2 0), .int a] M (jI P) := by
  unfold sDown at hP
  refine b_X12_down ?_
  rintro M1 rfl M2 rfl
  have h2 := (h.th 0).st 0
  generalize jrI (jrI M 0 (upd (M.1 0) 1 0)) 0 (upd ((jrI M 0 (upd (M.1 0) 1 0)).1 0) 0 0) = M2 at h2 ⊢
  have h25 := h.pl.wf.c25
  have h6 := h.pl.wf.2.2.2.1
  have t9 : ∀ c, zT z c ≤ 99 := h.tn.2
  have l9 := h.pl.wf.2.2.2.2.2.2.2.1
  refine k_mIsCell h2.pl ⟨fun c => ?_, fun c => ?_⟩
  · rw [if_pos (show qin a (qc (zP z)) = true from c)] at hP
    obtain ⟨j, hj, rfl, e⟩ := qin_0 c (show qc (zP z) < 2 ^ 31 by omega)
    rw [e] at hP
    have hj' : j < qc (zP z) := hj
    refine ⟨144 + j, by omega, by rw [jn144, nI_add], ?_⟩
    rw [h2.tn.1 j hj]
    have b4 : ∀ c, tset (zT z) j (min (zT z j) (qLeast (zP z) j)) c ≤ 99 := tset_le t9 (Nat.le_trans (Nat.min_le_left _ _) (t9 j))
    refine jloop2 (fun v (M3 : jM) (s : Int32) => JW x jtbM mX12_down (d + 2) (jI P) 40 [(0, .ref (x.2.2.2 0)), (1, .int (nI j)), (2, .int (nI (zT z j))), (3, .int s), (4, .int (nI v))] [] M3) (fun v M3 s => mI M3 (uSt z 0) ∧ s = nI (qDn (zP z) (zT z) j v)) (qn (zP z)) ?_ ?_ 0 M2 0 (Nat.zero_le _) ⟨h2, rfl⟩
    · rintro M3 _ ⟨g, rfl⟩
      refine b_X12_down_40 ?_
      rw [g.pl.n]
      exact pk_le (qn (zP z)) (qn (zP z)) (fun _ => hP _ g) (fun c => absurd c (by omega))
    · rintro v M3 _ hv ⟨g, rfl⟩ ih
      refine b_X12_down_40 ?_
      rw [g.pl.n]
      refine pk_le (qn (zP z)) v (fun c => absurd c (by omega)) (fun _ => ⟨78 + v, by omega, by rw [jn78, nI_add], ?_⟩)
      have s8 := h.pl.wf.2.2.2.2.2.2.2.2.2.1 v
      have hF := qF_lt s8 hj'
      have h9 := qS_le (side := qSide (zP z) v) h.pl.wf.1 h.pl.wf.2.1
      rw [g.pl.side hv]
      refine k_mStripOf g.pl s8 hj ?_
      rw [g.pl.side hv]
      refine k_mSeenFrom (pl := zP z) (f := zT z) (side := qSide (zP z) v) (s := qF (qw (zP z)) (qh (zP z)) (qSide (zP z) v) j) g.pl g.tn s8 (by omega) ⟨28 + j, by omega, by rw [jn28, nI_add], ?_⟩
      rw [g.pl.least (by omega)]
      refine k_minN (by have := t9 j; omega) (by have := l9 j; exact Nat.lt_of_le_of_lt this (by decide)) ⟨144 + j, by omega, by rw [jn144, nI_add], ?_⟩
      intro M4 e4
      have h4 : mI M4 (uTn (uSt z 0) (tset (zT z) j (min (zT z j) (qLeast (zP z) j)))) := by
        rw [e4]
        refine mI.setTn g (fun q hq => jrI_n hq) rfl (fun k hk => by rw [jrI_s, pk_un (by omega)]) (fun c hc => ?_) b4
        rw [jrI_s]
        unfold tset
        by_cases w : c = j
        · rw [w, pk_us, if_pos rfl]; rfl
        · rw [pk_un (by omega), if_neg w]; exact g.tn.1 c hc
      clear e4
      rw [h4.pl.side hv]
      have q1 := qG_le (w := qw (zP z)) (h := qh (zP z)) (side := qSide (zP z) v) (s := qF (qw (zP z)) (qh (zP z)) (qSide (zP z) v) j) b4 (qc (zP z))
      have q2 := qG_le (w := qw (zP z)) (h := qh (zP z)) (side := qSide (zP z) v) (s := qF (qw (zP z)) (qh (zP z)) (qSide (zP z) v) j) t9 (qc (zP z))
      have back : ∀ M5, M5 = jrI M4 5 (upd (M4.1 5) (144 + j) (nI (zT z j))) → mI M5 (uSt z 0) := by
        intro M5 e5
        rw [e5]
        refine mI.setTn (f := zT z) h4 (fun q hq => jrI_n hq) rfl (fun k hk => by rw [jrI_s, pk_un (by omega)]) (fun c hc => ?_) t9
        rw [jrI_s]
        by_cases w : c = j
        · rw [w, pk_us]
        · rw [pk_un (by omega), h4.tn.1 c hc]
          show nI (tset _ j _ c) = _
          unfold tset
          rw [if_neg w]
      refine k_mSeenFrom (pl := zP z) (f := tset (zT z) j (min (zT z j) (qLeast (zP z) j))) (side := qSide (zP z) v) (s := qF (qw (zP z)) (qh (zP z)) (qSide (zP z) v) j) h4.pl h4.tn s8 (by omega) ?_
      rw [nI_eq (Nat.lt_of_le_of_lt q1 (by decide)) (Nat.lt_of_le_of_lt q2 (by decide))]
      refine ⟨fun w => ?_, fun w => ?_⟩
      · refine b_X12_down_136 ⟨144 + j, by omega, by rw [jn144, nI_add], fun M5 e5 => ?_⟩
        rw [nI_1, nI_1]
        refine ih M5 _ ⟨back M5 e5, ?_⟩
        show _ = nI (qDn (zP z) (zT z) j v + (if _ then 0 else 1))
        rw [if_neg (show ¬ qG _ _ _ (qFv (zP z) v j) _ _ = qG _ _ _ (qFv (zP z) v j) _ _ from w)]
      · refine b_X12_down_136 ⟨144 + j, by omega, by rw [jn144, nI_add], fun M5 e5 => ?_⟩
        rw [nI_1]
        refine ih M5 _ ⟨back M5 e5, ?_⟩
        show _ + nI 0 = nI (qDn (zP z) (zT z) j v + (if _ then 0 else 1))
        rw [if_pos (show qG _ _ _ (qFv (zP z) v j) _ _ = qG _ _ _ (qFv (zP z) v j) _ _ from w), nI_add]
  · rw [if_neg (by rw [show qin a (qc (zP z)) = false from c]; decide)] at hP
    exact m_refuse h2 hP
theorem o_struck {P : jM → Int32 → Prop} (h : cI M z) (hP : ∀ M', cI M' (sStruck z).1 → P M' (sStruck z).2) : JC x jtbC mX11_struck (d + 5) [.ref (x.2.2.2 0)] M (jI P) := by
  unfold sStruck at hP
  rw [← struck_same h.pl.wf] at hP
  have h6 := h.pl.wf.2.2.2.1
  have h64 : 2 ^ qn (zP z) ≤ 64 := Nat.pow_le_pow_right (by decide) h6
  have h1 : 1 ≤ 2 ^ qn (zP z) := Nat.one_le_two_pow
  refine b_X11_struck ?_
  rw [h.pl.n, nI_shl1 _ (by omega), jn1, pk_sub h1]
  refine jloop2 (fun v (M3 : jM) (s : Int32) => JW x jtbC mX11_struck (d + 5) (jI P) 19 [(0, .ref (x.2.2.2 0)), (1, .int (nI (2 ^ qn (zP z) - 1))), (2, .int s), (3, .int (nI v))] [] M3) (fun v M3 s => cI M3 z ∧ s = oI (qBest (qOkC (zP z)) v)) (2 ^ qn (zP z)) ?_ ?_ 0 M (-1) (Nat.zero_le _) ⟨h, rfl⟩
  · rintro M3 _ ⟨g, rfl⟩
    refine b_X11_struck_19 (pk_lt (2 ^ qn (zP z) - 1) (2 ^ qn (zP z)) (fun _ => ?_) (fun c => absurd c (by omega)))
    cases e : qBest (qOkC (zP z)) (2 ^ qn (zP z)) with
    | none =>
      rw [e] at hP
      exact ⟨fun c => absurd rfl c, fun _ => c_refused g hP⟩
    | some b =>
      rw [e] at hP
      have := (qBest_lt e).1
      exact ⟨fun _ => c_answered g hP, fun c => absurd c (nI_ne1 (by omega))⟩
  · rintro v M3 _ hv ⟨g, rfl⟩ ih
    have try_ : (∀ t, qBest (qOkC (zP z)) v = some t → qPop v < qPop t) → ∀ M4, cI M4 z → JW x jtbC mX11_struck (d + 5) (jI P) 45 [(0, .ref (x.2.2.2 0)), (1, .int (nI (2 ^ qn (zP z) - 1))), (2, .int (oI (qBest (qOkC (zP z)) v))), (3, .int (nI v))] [.int (1 : Int32)] M4 := fun q M4 g4 => by
      refine b_X11_struck_45 ⟨fun c => absurd c (by decide), fun _ => ?_⟩
      rw [nI_andn (by omega), nI_1]
      have lt : (2 ^ qn (zP z) - 1) ^^^ ((2 ^ qn (zP z) - 1) &&& v) < 64 := Nat.xor_lt_two_pow (n := 6) (by omega) (Nat.lt_of_le_of_lt Nat.and_le_left (by omega))
      refine k_canKeep (set := (2 ^ qn (zP z) - 1) ^^^ ((2 ^ qn (zP z) - 1) &&& v)) lt g4 (fun M5 g5 _ _ _ => ⟨fun c => ?_, fun c => ?_⟩)
      · exact ih M5 _ ⟨g5, by rw [qBest_no (ok := qOkC (zP z)) c]⟩
      · exact ih M5 _ ⟨g5, by rw [qBest_take (ok := qOkC (zP z)) c q]; rfl⟩
    refine b_X11_struck_19 (pk_lt (2 ^ qn (zP z) - 1) v (fun c => absurd c (by omega)) (fun _ => ?_))
    cases e : qBest (qOkC (zP z)) v with
    | none =>
      rw [e] at try_
      exact ⟨fun _ => try_ (fun t c => by cases c) M3 g, fun c => absurd rfl c⟩
    | some b =>
      have hb := (qBest_lt e).1
      have ok := e
      rw [e] at try_
      refine ⟨fun c => absurd c (nI_ne1 (by omega)), fun _ => k_bitCount (n := v) (by omega) (k_bitCount (n := b) (by omega) ?_)⟩
      have p1 := fb_ct_le v.testBit 32
      have p2 := fb_ct_le b.testBit 32
      refine pk_le (qPop b) (qPop v) (fun c => ?_) (fun c => try_ (fun t ht => by cases ht; exact c) M3 g) rfl rfl (Nat.lt_of_le_of_lt p2 (by decide)) (Nat.lt_of_le_of_lt p1 (by decide))
      refine b_X11_struck_45 ⟨fun _ => ?_, fun c => absurd rfl c⟩
      rw [nI_1]
      exact ih M3 _ ⟨g, by rw [qBest_more e c, e]⟩
end STK
