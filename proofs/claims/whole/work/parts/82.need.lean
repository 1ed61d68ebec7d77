/-! the needs of the class as a list: require, findForced -/
def qReq (L : List (Nat × Nat)) (f dd : Nat) : List (Nat × Nat) := if L.any (fun p => decide (p.1 &&& f = p.1)) then L else L.filter (fun p => !decide (p.1 &&& f = f)) ++ [(f, dd)]
def rq (M : jM) (L : List (Nat × Nat)) : Prop := M.1 55 3 = nI L.length ∧ L.length ≤ 54 ∧ ∀ k p, L[k]? = some p → M.1 56 k = nI p.1 ∧ M.1 57 k = nI p.2
/-- a list that is being filtered in its place -/
def ft (M : jM) (L : List (Nat × Nat)) (q : Nat × Nat → Bool) (k : Nat) : Prop := (∀ i p, ((L.take k).filter q)[i]? = some p → M.1 56 i = nI p.1 ∧ M.1 57 i = nI p.2) ∧ ∀ i p, k ≤ i → L[i]? = some p → M.1 56 i = nI p.1 ∧ M.1 57 i = nI p.2
theorem app1 {α : Type} {l : List α} {a p : α} {k : Nat} (h : (l ++ [a])[k]? = some p) : (k < l.length ∧ l[k]? = some p) ∨ (k = l.length ∧ p = a) := by
  rcases Nat.lt_or_ge k l.length with q | q
  · rw [List.getElem?_append_left q] at h; exact Or.inl ⟨q, h⟩
  · rw [List.getElem?_append_right q] at h
    have e : k - l.length = 0 := by
      apply Classical.byContradiction
      intro c
      rw [List.getElem?_eq_none (by simp; omega)] at h
      cases h
    rw [e] at h
    exact Or.inr ⟨by omega, by simpa using h.symm⟩
theorem take1 {α : Type} {l : List α} {p : α} {k : Nat} (h : l[k]? = some p) (q : α → Bool) : (l.take (k + 1)).filter q = (l.take k).filter q ++ (if q p then [p] else []) := by
  rw [List.take_succ, h, List.filter_append]
  congr 1
  show List.filter q [p] = _
  rw [List.filter_cons]
  cases q p <;> rfl
theorem filt_le {α : Type} (l : List α) (q : α → Bool) (k : Nat) : ((l.take k).filter q).length ≤ k := by
  refine Nat.le_trans (List.length_filter_le _ _) ?_
  rw [List.length_take]
  exact Nat.min_le_left _ _
theorem at_some {α : Type} {l : List α} {k : Nat} (h : k < l.length) : ∃ p, l[k]? = some p ∧ p ∈ l := ⟨l[k], List.getElem?_eq_getElem h, List.getElem_mem h⟩
section NED
variable {x : jX} {d : Nat} {M : jM}
theorem ft_0 {L : List (Nat × Nat)} {q : Nat × Nat → Bool} (h : ∀ k p, L[k]? = some p → M.1 56 k = nI p.1 ∧ M.1 57 k = nI p.2) : ft M L q 0 := ⟨fun i p hp => by simp at hp, fun i p _ hp => h i p hp⟩
theorem ft_drop {L : List (Nat × Nat)} {q : Nat × Nat → Bool} {k : Nat} {p : Nat × Nat} (h : ft M L q k) (hp : L[k]? = some p) (hq : q p = false) : ft M L q (k + 1) := by
  refine ⟨fun i r hr => ?_, fun i r hi hr => h.2 i r (by omega) hr⟩
  rw [take1 hp, hq] at hr
  exact h.1 i r (by simpa using hr)
theorem ft_keep {M' : jM} {L : List (Nat × Nat)} {q : Nat × Nat → Bool} {k : Nat} {p : Nat × Nat} (h : ft M L q k) (hp : L[k]? = some p) (hq : q p = true) (e6 : M'.1 56 = upd (M.1 56) ((L.take k).filter q).length (M.1 56 k)) (e7 : M'.1 57 = upd (M.1 57) ((L.take k).filter q).length (M.1 57 k)) : ft M' L q (k + 1) := by
  have hl := filt_le L q k
  refine ⟨fun i r hr => ?_, fun i r hi hr => ?_⟩
  · rw [take1 hp, hq] at hr
    rw [e6, e7]
    rcases app1 hr with ⟨u, v⟩ | ⟨u, v⟩
    · rw [pk_un (by omega), pk_un (by omega)]; exact h.1 i r v
    · rw [u, pk_us, pk_us, v]; exact h.2 k p (Nat.le_refl _) hp
  · rw [e6, e7, pk_un (by omega), pk_un (by omega)]
    exact h.2 i r (by omega) hr
theorem k_move {P : jM → Prop} {a b : Nat} (ha : a < 54) (hb : b < 54) (h : ∀ M' : jM, (∀ q, q ≠ 56 → q ≠ 57 → M'.1 q = M.1 q) → M'.2 = M.2 → M'.1 56 = upd (M.1 56) b (M.1 56 a) → M'.1 57 = upd (M.1 57) b (M.1 57 a) → P M') : JC x jtbC mX1_move d [.ref (x.2.2.2 55), .int (nI a), .int (nI b)] M (jV P) := by
  refine b_X1_move ⟨a, ha, rfl, b, hb, rfl, ?_⟩
  intro M1 e1 M2 e2
  have x7 : M1.1 57 = M.1 57 := by rw [e1, jrI_n (by omega)]
  refine h M2 (fun q h6 h7 => by rw [e2, jrI_n h7, e1, jrI_n h6]) (by rw [e2, e1]; rfl) (by rw [e2, jrI_n (by omega), e1, jrI_s]) (by rw [e2, jrI_s, x7])
theorem nI_and_eq {a b c : Nat} (ha : a < 2 ^ 31) (hc : c < 2 ^ 31) : nI a &&& nI b = nI c ↔ a &&& b = c := by
  rw [fa_and, nI_eq (Nat.lt_of_le_of_lt Nat.and_le_left ha) hc]
theorem k_require {P : jM → Prop} {L : List (Nat × Nat)} {f dd : Nat} (hr : rq M L) (hl : L.length < 54) (hL : ∀ p, p ∈ L → p.1 < 2 ^ 25) (hf : f < 2 ^ 25) (h : ∀ M', jsame (fun q => q = 55 ∨ q = 56 ∨ q = 57) M M' → M'.2 = M.2 → (∀ k, k ≠ 3 → M'.1 55 k = M.1 55 k) → rq M' (qReq L f dd) → P M') : JC x jtbC mX1_require (d + 1) [.ref (x.2.2.2 55), .int (nI f), .int (nI dd)] M (jV P) := by
  obtain ⟨r1, r2, r3⟩ := hr
  have b31 : ∀ n, n < 2 ^ 25 → n < 2 ^ 31 := fun n hn => Nat.lt_trans hn (by decide)
  refine b_X1_require ?_
  refine jloop (fun i (_ : Unit) => JW x jtbC mX1_require (d + 1) (jV P) 2 [(0, .ref (x.2.2.2 55)), (1, .int (nI f)), (2, .int (nI dd)), (3, .int (nI i))] [] M) (fun i _ => ∀ k p, k < i → L[k]? = some p → ¬ p.1 &&& f = p.1) L.length ?_ ?_ 0 () (Nat.zero_le _) (fun k p hk => absurd hk (Nat.not_lt_zero _))
  · rintro _ hI
    have na : L.any (fun p => decide (p.1 &&& f = p.1)) = false := by
      rw [List.any_eq_false]
      intro p hp e
      obtain ⟨k, hk⟩ := List.getElem?_of_mem hp
      have hkl : k < L.length := (List.getElem?_eq_some_iff.mp hk).1
      exact hI k p hkl hk (of_decide_eq_true e)
    have eR : qReq L f dd = L.filter (fun p => !decide (p.1 &&& f = f)) ++ [(f, dd)] := by
      unfold qReq; rw [na]; rfl
    rw [eR] at h
    refine b_X1_require_2 ?_
    rw [r1]
    refine pk_le L.length L.length (fun _ => ?_) (fun c => absurd c (by omega))
    refine jloop2 (fun i (M1 : jM) (kp : Nat) => JW x jtbC mX1_require (d + 1) (jV P) 39 [(0, .ref (x.2.2.2 55)), (1, .int (nI f)), (2, .int (nI dd)), (3, .int (nI kp)), (4, .int (nI i))] [] M1) (fun i M1 kp => kp = ((L.take i).filter (fun p => !decide (p.1 &&& f = f))).length ∧ ft M1 L (fun p => !decide (p.1 &&& f = f)) i ∧ (∀ q, q ≠ 56 → q ≠ 57 → M1.1 q = M.1 q) ∧ M1.2 = M.2) L.length ?_ ?_ 0 M 0 (Nat.zero_le _) ⟨rfl, ft_0 r3, fun _ _ _ => rfl, rfl⟩
    · rintro M1 kp ⟨rfl, g2, g3, g4⟩
      have g1 := filt_le L (fun p => !decide (p.1 &&& f = f)) L.length
      have g2' := g2.1
      clear g2
      rw [List.take_length] at g1 g2' ⊢
      generalize hF : L.filter (fun p => !decide (p.1 &&& f = f)) = F at *
      refine b_X1_require_39 ?_
      rw [g3 55 (by omega) (by omega), r1]
      refine pk_le L.length L.length (fun _ => ?_) (fun c => absurd c (by omega))
      intro M2 e2
      have x2 : M2.1 55 3 = nI F.length := by rw [e2, jrI_s, pk_us]
      rw [x2]
      refine pk_le 54 F.length (fun c => absurd c (by omega)) (fun _ => ⟨F.length, by omega, rfl, ?_⟩)
      intro M3 e3
      refine ⟨F.length, by omega, by rw [e3, jrI_n (by omega), x2], ?_⟩
      intro M4 e4 M5 e5
      have x5 : M5.1 55 3 = nI (F.length + 1) := by
        rw [e5, jrI_s, pk_us, e4, jrI_n (by omega), e3, jrI_n (by omega), x2, nI_1]
      refine h M5 (fun q hq => ?_) (by rw [e5, e4, e3, e2]; exact g4) (fun k hk => ?_) ⟨?_, ?_, fun k p hk => ?_⟩
      · have q5 : q ≠ 55 := fun e => hq (Or.inl e)
        have q6 : q ≠ 56 := fun e => hq (Or.inr (Or.inl e))
        have q7 : q ≠ 57 := fun e => hq (Or.inr (Or.inr e))
        refine ⟨by rw [e5, jrI_n q5, e4, jrI_n q7, e3, jrI_n q6, e2, jrI_n q5]; exact g3 q q6 q7, by rw [e5, e4, e3, e2]; exact congrFun g4 q⟩
      · rw [e5, jrI_s, pk_un hk, e4, jrI_n (by omega), e3, jrI_n (by omega), e2, jrI_s, pk_un hk]
      · rw [x5, List.length_append]; rfl
      · rw [List.length_append]; show F.length + 1 ≤ 54; omega
      · rw [e5, jrI_n (by omega), jrI_n (by omega), e4, jrI_n (by omega), jrI_s, e3, jrI_s, jrI_n (by omega), e2, jrI_n (by omega), jrI_n (by omega)]
        rcases app1 hk with ⟨u, v⟩ | ⟨u, v⟩
        · rw [pk_un (by omega), pk_un (by omega)]; exact g2' k p v
        · rw [u, pk_us, pk_us, v]; exact ⟨rfl, rfl⟩
    · rintro i M1 kp hi ⟨rfl, g2, g3, g4⟩ ih
      obtain ⟨p, hp, hpm⟩ := at_some hi
      have g1 := filt_le L (fun p => !decide (p.1 &&& f = f)) i
      refine b_X1_require_39 ?_
      rw [g3 55 (by omega) (by omega), r1]
      refine pk_le L.length i (fun c => absurd c (by omega)) (fun _ => ⟨i, by omega, rfl, ?_⟩)
      rw [(g2.2 i p (Nat.le_refl _) hp).1, nI_and_eq (b31 _ (hL p hpm)) (b31 _ hf), nI_1]
      refine ⟨fun c => ih M1 _ ⟨?_, ft_drop g2 hp (by rw [decide_eq_true c]; rfl), g3, g4⟩, fun c => ?_⟩
      · rw [take1 hp, decide_eq_true c]; simp
      · refine k_move (by omega) (by omega) (fun M2 m1 m2 m3 m4 => ?_)
        rw [nI_1]
        refine ih M2 _ ⟨?_, ft_keep g2 hp (by rw [decide_eq_false c]; rfl) m3 m4, fun q h6 h7 => by rw [m1 q h6 h7]; exact g3 q h6 h7, by rw [m2]; exact g4⟩
        rw [take1 hp, decide_eq_false c]; simp
  · rintro i _ hi hI ih
    obtain ⟨p, hp, hpm⟩ := at_some hi
    refine b_X1_require_2 ?_
    rw [r1]
    refine pk_le L.length i (fun c => absurd c (by omega)) (fun _ => ⟨i, by omega, rfl, ?_⟩)
    rw [(r3 i p hp).1, nI_and_eq (b31 _ (hL p hpm)) (b31 _ (hL p hpm)), nI_1]
    refine ⟨fun c => ih () (fun k r hk hr => ?_), fun c => ?_⟩
    · rcases Nat.lt_or_ge k i with q | q
      · exact hI k r q hr
      · obtain rfl : k = i := by omega
        rw [hp] at hr
        cases hr
        exact c
    · have : qReq L f dd = L := by
        unfold qReq
        rw [if_pos]
        rw [List.any_eq_true]
        exact ⟨p, hpm, decide_eq_true c⟩
      rw [this] at h
      exact h M jsame.rf rfl (fun _ _ => rfl) ⟨r1, r2, r3⟩
/-- needs of one cell -/
def qSing (p : Nat × Nat) : Bool := decide (qPop p.1 = 1)
def qFo : List (Nat × Nat) → Nat → Nat
  | [], a => a
  | p :: t, a => qFo t (if qSing p then a ||| p.1 else a)
theorem qFo_app (l : List (Nat × Nat)) (p : Nat × Nat) : ∀ a, qFo (l ++ [p]) a = (if qSing p then qFo l a ||| p.1 else qFo l a) := by
  induction l with
  | nil => intro a; rfl
  | cons r t ih => intro a; exact ih _
theorem k_findForced {P : jM → Prop} {L : List (Nat × Nat)} (hr : rq M L) (h0 : M.1 55 0 = 0) (hL : ∀ p, p ∈ L → p.1 < 2 ^ 25) (h : ∀ M', jsame (fun q => q = 55 ∨ q = 56 ∨ q = 57) M M' → M'.2 = M.2 → M'.1 55 0 = nI (qFo L 0) → rq M' (L.filter (fun p => !qSing p)) → P M') : JC x jtbC mX1_findForced (d + 1) [.ref (x.2.2.2 55)] M (jV P) := by
  obtain ⟨r1, r2, r3⟩ := hr
  refine b_X1_findForced ?_
  refine jloop2 (fun i (M1 : jM) (kp : Nat) => JW x jtbC mX1_findForced (d + 1) (jV P) 4 [(0, .ref (x.2.2.2 55)), (1, .int (nI kp)), (2, .int (nI i))] [] M1) (fun i M1 kp => kp = ((L.take i).filter (fun p => !qSing p)).length ∧ ft M1 L (fun p => !qSing p) i ∧ (∀ q, q ≠ 55 → q ≠ 56 → q ≠ 57 → M1.1 q = M.1 q) ∧ M1.2 = M.2 ∧ M1.1 55 3 = nI L.length ∧ M1.1 55 0 = nI (qFo (L.take i) 0)) L.length ?_ ?_ 0 M 0 (Nat.zero_le _) ⟨rfl, ft_0 r3, fun _ _ _ _ => rfl, rfl, r1, h0⟩
  · rintro M1 kp ⟨rfl, g2, g3, g4, g5, g6⟩
    have g1 := filt_le L (fun p => !qSing p) L.length
    have g2' := g2.1
    rw [List.take_length] at g1 g6 g2' ⊢
    refine b_X1_findForced_4 ?_
    rw [g5]
    refine pk_le L.length L.length (fun _ => ?_) (fun c => absurd c (by omega))
    intro M2 e2
    refine h M2 (fun q hq => ?_) (by rw [e2]; exact g4) (by rw [e2, jrI_s, pk_un (by omega)]; exact g6) ⟨by rw [e2, jrI_s, pk_us], by omega, fun k p hk => ?_⟩
    · have q5 : q ≠ 55 := fun e => hq (Or.inl e)
      have q6 : q ≠ 56 := fun e => hq (Or.inr (Or.inl e))
      have q7 : q ≠ 57 := fun e => hq (Or.inr (Or.inr e))
      exact ⟨by rw [e2, jrI_n q5]; exact g3 q q5 q6 q7, by rw [e2]; exact congrFun g4 q⟩
    · rw [e2, jrI_n (by omega), jrI_n (by omega)]; exact g2' k p hk
  · rintro i M1 kp hi ⟨rfl, g2, g3, g4, g5, g6⟩ ih
    obtain ⟨p, hp, hpm⟩ := at_some hi
    have hp25 := hL p hpm
    have g1 := filt_le L (fun p => !qSing p) i
    have eF : qFo (L.take (i + 1)) 0 = (if qSing p then qFo (L.take i) 0 ||| p.1 else qFo (L.take i) 0) := by
      rw [List.take_succ, hp]; exact qFo_app _ _ _
    refine b_X1_findForced_4 ?_
    rw [g5]
    refine pk_le L.length i (fun c => absurd c (by omega)) (fun _ => ⟨i, by omega, rfl, ?_⟩)
    rw [(g2.2 i p (Nat.le_refl _) hp).1]
    refine k_bitCount (Nat.lt_trans hp25 (by decide)) ?_
    have pl : qPop p.1 ≤ 32 := fb_ct_le _ _
    rw [nI_1]
    refine ⟨fun c => ?_, fun c => ?_⟩
    · have s : qSing p = false := decide_eq_false (fun e => c (by rw [e]; rfl))
      refine k_move (by omega) (by omega) (fun M2 m1 m2 m3 m4 => ?_)
      rw [nI_1]
      refine ih M2 _ ⟨?_, ft_keep g2 hp (by rw [s]; rfl) m3 m4, fun q h5 h6 h7 => by rw [m1 q h6 h7]; exact g3 q h5 h6 h7, by rw [m2]; exact g4, by rw [m1 55 (by omega) (by omega)]; exact g5, by rw [m1 55 (by omega) (by omega), eF, s]; exact g6⟩
      rw [take1 hp, s]; simp
    · have s : qSing p = true := decide_eq_true ((nI_eq (by omega) (by omega)).mp c)
      intro M2 e2
      rw [nI_1]
      refine ih M2 _ ⟨?_, ft_drop (M := M2) ?_ hp (by rw [s]; rfl), fun q h5 h6 h7 => by rw [e2, jrI_n h5]; exact g3 q h5 h6 h7, by rw [e2]; exact g4, by rw [e2, jrI_s, pk_un (by omega)]; exact g5, ?_⟩
      · rw [take1 hp, s]; simp
      · have y6 : M2.1 56 = M1.1 56 := by rw [e2, jrI_n (by omega)]
        have y7 : M2.1 57 = M1.1 57 := by rw [e2, jrI_n (by omega)]
        unfold ft
        rw [y6, y7]
        exact g2
      · rw [e2, jrI_s, pk_us, g6, (g2.2 i p (Nat.le_refl _) hp).1, fa_or, eF, s]; rfl
end NED
