theorem jn0 : (0 : Int32) = nI 0 := rfl
theorem jn1 : (1 : Int32) = nI 1 := rfl
theorem jn2 : (2 : Int32) = nI 2 := rfl
theorem jn3 : (3 : Int32) = nI 3 := rfl
theorem jn4 : (4 : Int32) = nI 4 := rfl
theorem jn5 : (5 : Int32) = nI 5 := rfl
theorem jn6 : (6 : Int32) = nI 6 := rfl
theorem jn7 : (7 : Int32) = nI 7 := rfl
theorem jn8 : (8 : Int32) = nI 8 := rfl
theorem jn9 : (9 : Int32) = nI 9 := rfl
theorem jn10 : (10 : Int32) = nI 10 := rfl
theorem jn11 : (11 : Int32) = nI 11 := rfl
theorem jn12 : (12 : Int32) = nI 12 := rfl
theorem jn13 : (13 : Int32) = nI 13 := rfl
theorem jn14 : (14 : Int32) = nI 14 := rfl
theorem jn15 : (15 : Int32) = nI 15 := rfl
theorem jn16 : (16 : Int32) = nI 16 := rfl
theorem jn17 : (17 : Int32) = nI 17 := rfl
theorem jn18 : (18 : Int32) = nI 18 := rfl
theorem jn19 : (19 : Int32) = nI 19 := rfl
theorem jn20 : (20 : Int32) = nI 20 := rfl
theorem jn21 : (21 : Int32) = nI 21 := rfl
theorem jn22 : (22 : Int32) = nI 22 := rfl
theorem jn23 : (23 : Int32) = nI 23 := rfl
theorem jn24 : (24 : Int32) = nI 24 := rfl
theorem jn25 : (25 : Int32) = nI 25 := rfl
theorem jn26 : (26 : Int32) = nI 26 := rfl
theorem jn27 : (27 : Int32) = nI 27 := rfl
theorem jn28 : (28 : Int32) = nI 28 := rfl
theorem jn29 : (29 : Int32) = nI 29 := rfl
theorem jn30 : (30 : Int32) = nI 30 := rfl
theorem jn31 : (31 : Int32) = nI 31 := rfl
theorem jn32 : (32 : Int32) = nI 32 := rfl
theorem jn33 : (33 : Int32) = nI 33 := rfl
theorem jn34 : (34 : Int32) = nI 34 := rfl
theorem jn35 : (35 : Int32) = nI 35 := rfl
theorem jn36 : (36 : Int32) = nI 36 := rfl
theorem jn37 : (37 : Int32) = nI 37 := rfl
theorem jn38 : (38 : Int32) = nI 38 := rfl
theorem jn39 : (39 : Int32) = nI 39 := rfl
theorem jn40 : (40 : Int32) = nI 40 := rfl
theorem jn41 : (41 : Int32) = nI 41 := rfl
theorem jn42 : (42 : Int32) = nI 42 := rfl
theorem jn43 : (43 : Int32) = nI 43 := rfl
theorem jn44 : (44 : Int32) = nI 44 := rfl
theorem jn45 : (45 : Int32) = nI 45 := rfl
theorem jn46 : (46 : Int32) = nI 46 := rfl
theorem jn47 : (47 : Int32) = nI 47 := rfl
theorem jn48 : (48 : Int32) = nI 48 := rfl
theorem jn49 : (49 : Int32) = nI 49 := rfl
theorem jn50 : (50 : Int32) = nI 50 := rfl
theorem jn51 : (51 : Int32) = nI 51 := rfl
theorem jn52 : (52 : Int32) = nI 52 := rfl
theorem jn53 : (53 : Int32) = nI 53 := rfl
theorem jn54 : (54 : Int32) = nI 54 := rfl
theorem jn55 : (55 : Int32) = nI 55 := rfl
theorem jn56 : (56 : Int32) = nI 56 := rfl
theorem jn57 : (57 : Int32) = nI 57 := rfl
theorem jn58 : (58 : Int32) = nI 58 := rfl
theorem jn59 : (59 : Int32) = nI 59 := rfl
theorem jn60 : (60 : Int32) = nI 60 := rfl
theorem jn61 : (61 : Int32) = nI 61 := rfl
theorem jn62 : (62 : Int32) = nI 62 := rfl
theorem jn63 : (63 : Int32) = nI 63 := rfl
theorem jn64 : (64 : Int32) = nI 64 := rfl
theorem jn65 : (65 : Int32) = nI 65 := rfl
theorem jn66 : (66 : Int32) = nI 66 := rfl
theorem jn67 : (67 : Int32) = nI 67 := rfl
theorem jn68 : (68 : Int32) = nI 68 := rfl
theorem jn69 : (69 : Int32) = nI 69 := rfl
theorem jn78 : (78 : Int32) = nI 78 := rfl
theorem jn84 : (84 : Int32) = nI 84 := rfl
theorem jn90 : (90 : Int32) = nI 90 := rfl
theorem jn97 : (97 : Int32) = nI 97 := rfl
theorem jn98 : (98 : Int32) = nI 98 := rfl
theorem jn99 : (99 : Int32) = nI 99 := rfl
theorem jn100 : (100 : Int32) = nI 100 := rfl
theorem jn122 : (122 : Int32) = nI 122 := rfl
theorem jn144 : (144 : Int32) = nI 144 := rfl
theorem jn169 : (169 : Int32) = nI 169 := rfl
theorem jn170 : (170 : Int32) = nI 170 := rfl
theorem jn171 : (171 : Int32) = nI 171 := rfl
theorem jn200 : (200 : Int32) = nI 200 := rfl
theorem jn255 : (255 : Int32) = nI 255 := rfl
theorem jn300 : (300 : Int32) = nI 300 := rfl
theorem jn400 : (400 : Int32) = nI 400 := rfl
theorem jn412 : (412 : Int32) = nI 412 := rfl
theorem jn900 : (900 : Int32) = nI 900 := rfl
theorem jn1000 : (1000 : Int32) = nI 1000 := rfl
theorem jn1648 : (1648 : Int32) = nI 1648 := rfl
theorem jn9999 : (9999 : Int32) = nI 9999 := rfl
theorem jn10000 : (10000 : Int32) = nI 10000 := rfl
theorem jn12007 : (12007 : Int32) = nI 12007 := rfl
theorem jn2861 : (2861 : Int32) = nI 2861 := rfl
theorem jn65536 : (65536 : Int32) = nI 65536 := rfl
theorem jn1000000 : (1000000 : Int32) = nI 1000000 := rfl
theorem jn1000007 : (1000007 : Int32) = nI 1000007 := rfl
theorem k_min {x : jX} {tb : jT} {d : Nat} {M : jM} {P : jM → Int32 → Prop} {a b : Int32} (h : P M (if b < a then b else a)) : JC x tb mJ9_min_7cf53 d [.int a, .int b] M (jI P) := by
  refine b_J9_min_7cf53 ⟨fun c => ?_, fun c => ?_⟩
  · rw [if_pos c] at h
    exact h
  · rw [if_neg c] at h
    exact h
theorem k_maxN {x : jX} {tb : jT} {d : Nat} {M : jM} {P : jM → Int32 → Prop} {a b : Nat} (ha : a < 2 ^ 31) (hb : b < 2 ^ 31) (h : P M (nI (max a b))) : JC x tb mJ9_max_7cf53 d [.int (nI a), .int (nI b)] M (jI P) := by
  refine k_max ?_
  by_cases c : a < b
  · rw [if_pos ((nI_ltI ha hb).mpr c)]; rw [Nat.max_eq_right (by omega)] at h; exact h
  · rw [if_neg (fun z => c ((nI_ltI ha hb).mp z))]; rw [Nat.max_eq_left (by omega)] at h; exact h
theorem k_minN {x : jX} {tb : jT} {d : Nat} {M : jM} {P : jM → Int32 → Prop} {a b : Nat} (ha : a < 2 ^ 31) (hb : b < 2 ^ 31) (h : P M (nI (min a b))) : JC x tb mJ9_min_7cf53 d [.int (nI a), .int (nI b)] M (jI P) := by
  refine k_min ?_
  by_cases c : b < a
  · rw [if_pos ((nI_ltI hb ha).mpr c)]; rw [Nat.min_eq_right (by omega)] at h; exact h
  · rw [if_neg (fun z => c ((nI_ltI hb ha).mp z))]; rw [Nat.min_eq_left (by omega)] at h; exact h
/-- max(0, a - b) -/
theorem k_maxS {x : jX} {tb : jT} {d : Nat} {M : jM} {P : jM → Int32 → Prop} {a b : Nat} (ha : a < 2 ^ 30) (hb : b < 2 ^ 30) (h : P M (nI (a - b))) : JC x tb mJ9_max_7cf53 d [.int (0 : Int32), .int (nI a - nI b)] M (jI P) := by
  refine k_max ?_
  have e := pk_sub_toInt ha hb
  by_cases c : b < a
  · rw [if_pos]
    · rw [pk_sub (by omega)]; exact h
    · rw [Int32.lt_iff_toInt_lt, e, show (0 : Int32).toInt = 0 from rfl]; omega
  · rw [if_neg]
    · rw [show a - b = 0 by omega] at h; exact h
    · rw [Int32.lt_iff_toInt_lt, e, show (0 : Int32).toInt = 0 from rfl]; omega
/-- a Plain of the class at place p -/
def cPl (M : jM) (p : Nat) (pl : qP) : Prop :=
  M.1 p 0 = nI (qw pl) ∧ M.1 p 1 = nI (qh pl) ∧ M.1 p 2 = nI (qc pl) ∧ M.1 p 3 = nI (qn pl) ∧ M.1 p 4 = nI (qk pl) ∧ (∀ c, c < 25 → M.1 (p + 1) c = nI (qMost pl c)) ∧ (∀ c, c < 25 → M.1 (p + 2) c = nI (qLeast pl c)) ∧ (∀ c, c < 25 → M.1 (p + 3) c = nI (qPrice pl c)) ∧ (∀ v, v < qn pl → M.2 (p + 4) v = qName pl v) ∧ (∀ v, v < qn pl → M.1 (p + 5) v = nI (qSide pl v)) ∧
  (∀ v s, v < qn pl → (qk pl).testBit v = true → s < qSt pl v → M.1 (p + 6) (v * 9 + s) = nI (qLine pl v s)) ∧ (∀ side c, side < 8 → c < qc pl → M.1 (p + 7) (side * 25 + c) = nI (qF (qw pl) (qh pl) side c)) ∧ qWf pl
section CPL
variable {M M' : jM} {p : Nat} {pl : qP}
theorem cPl.w (h : cPl M p pl) : M.1 p 0 = nI (qw pl) := h.1
theorem cPl.h (h : cPl M p pl) : M.1 p 1 = nI (qh pl) := h.2.1
theorem cPl.c (h : cPl M p pl) : M.1 p 2 = nI (qc pl) := h.2.2.1
theorem cPl.n (h : cPl M p pl) : M.1 p 3 = nI (qn pl) := h.2.2.2.1
theorem cPl.k (h : cPl M p pl) : M.1 p 4 = nI (qk pl) := h.2.2.2.2.1
theorem cPl.most (h : cPl M p pl) {c : Nat} (hc : c < 25) : M.1 (p + 1) c = nI (qMost pl c) := h.2.2.2.2.2.1 c hc
theorem cPl.least (h : cPl M p pl) {c : Nat} (hc : c < 25) : M.1 (p + 2) c = nI (qLeast pl c) := h.2.2.2.2.2.2.1 c hc
theorem cPl.price (h : cPl M p pl) {c : Nat} (hc : c < 25) : M.1 (p + 3) c = nI (qPrice pl c) := h.2.2.2.2.2.2.2.1 c hc
theorem cPl.name (h : cPl M p pl) {v : Nat} (hv : v < qn pl) : M.2 (p + 4) v = qName pl v := h.2.2.2.2.2.2.2.2.1 v hv
theorem cPl.side (h : cPl M p pl) {v : Nat} (hv : v < qn pl) : M.1 (p + 5) v = nI (qSide pl v) := h.2.2.2.2.2.2.2.2.2.1 v hv
theorem cPl.line (h : cPl M p pl) {v s : Nat} (hv : v < qn pl) (hk : (qk pl).testBit v = true) (hs : s < qSt pl v) : M.1 (p + 6) (v * 9 + s) = nI (qLine pl v s) := h.2.2.2.2.2.2.2.2.2.2.1 v s hv hk hs
theorem cPl.strip (h : cPl M p pl) {side c : Nat} (hs : side < 8) (hc : c < qc pl) : M.1 (p + 7) (side * 25 + c) = nI (qF (qw pl) (qh pl) side c) := h.2.2.2.2.2.2.2.2.2.2.2.1 side c hs hc
theorem cPl.wf (h : cPl M p pl) : qWf pl := h.2.2.2.2.2.2.2.2.2.2.2.2
theorem cPl.keep (h : cPl M p pl) (h1 : ∀ q, p ≤ q → q < p + 8 → M'.1 q = M.1 q) (h2 : M'.2 (p + 4) = M.2 (p + 4)) : cPl M' p pl := by
  obtain ⟨a1, a2, a3, a4, a5, a6, a7, a8, a9, a10, a11, a12, a13⟩ := h
  have e0 := h1 p (by omega) (by omega)
  have e1 := h1 (p + 1) (by omega) (by omega)
  have e2 := h1 (p + 2) (by omega) (by omega)
  have e3 := h1 (p + 3) (by omega) (by omega)
  have e5 := h1 (p + 5) (by omega) (by omega)
  have e6 := h1 (p + 6) (by omega) (by omega)
  have e7 := h1 (p + 7) (by omega) (by omega)
  unfold cPl
  rw [e0, e1, e2, e3, e5, e6, e7, h2]
  exact ⟨a1, a2, a3, a4, a5, a6, a7, a8, a9, a10, a11, a12, a13⟩
end CPL
section KPL
variable {x : jX} {tb : jT} {d : Nat} {M : jM} {p : Nat} {pl : qP}
theorem k_stripAt {P : jM → Int32 → Prop} {side c : Nat} (a0 : aX5 tb p) (hp : cPl M p pl) (hs : side < 8) (hc : c < qc pl) (h : P M (nI (qF (qw pl) (qh pl) side c))) : JC x tb mX5_stripAt d [.ref (x.2.2.2 p), .int (nI side), .int (nI c)] M (jI P) := by
  have h25 := hp.wf.c25
  refine b_X5_stripAt a0 ⟨side * 25 + c, by omega, by rw [jn25, pk_mul, nI_add], ?_⟩
  rw [hp.strip hs hc]
  exact h
theorem k_stripsFrom {P : jM → Int32 → Prop} {side : Nat} (a0 : aX5 tb p) (hp : cPl M p pl) (hs : side < 8) (h : P M (nI (if qc pl = 0 then 0 else qS (qw pl) (qh pl) side))) : JC x tb mX5_stripsFrom d [.ref (x.2.2.2 p), .int (nI side)] M (jI P) := by
  have hw := hp.wf.1
  have hh := hp.wf.2.1
  refine b_X5_stripsFrom a0 ?_
  rw [hp.c, hp.w, hp.h]
  have h25 := hp.wf.c25
  by_cases h0 : qc pl = 0
  · rw [if_pos h0] at h
    refine ⟨fun c => absurd (by rw [h0]; rfl) c, fun _ => h⟩
  · rw [if_neg h0] at h
    have h1 : 1 ≤ qw pl := by
      rcases Nat.eq_zero_or_pos (qw pl) with e | e
      · exact absurd (by unfold qc; rw [e, Nat.zero_mul]) h0
      · exact e
    refine ⟨fun _ => ?_, fun c => absurd ((nI_eq (b := 0) (by omega) (by omega)).mp c) h0⟩
    have e : nI (qw pl) + nI (qh pl) - 1 = nI (qw pl + qh pl - 1) := by rw [nI_add, jn1, pk_sub (by omega)]
    simp only [e]
    rcases (show side = 0 ∨ side = 1 ∨ side = 2 ∨ side = 3 ∨ side = 4 ∨ side = 5 ∨ side = 6 ∨ side = 7 by omega) with rfl | rfl | rfl | rfl | rfl | rfl | rfl | rfl <;> simp [qS] at h <;> simp [nI] <;> exact h
theorem k_stripsOf {P : jM → Int32 → Prop} {v : Nat} (a0 : aX5 tb p) (hp : cPl M p pl) (hv : v < qn pl) (h : P M (nI (qSt pl v))) : JC x tb mX5_stripsOf (d + 1) [.ref (x.2.2.2 p), .int (nI v)] M (jI P) := by
  have hn := hp.wf.2.2.2.1
  refine b_X5_stripsOf a0 ⟨v, by omega, rfl, ?_⟩
  rw [hp.side hv]
  refine k_stripsFrom a0 hp (hp.wf.2.2.2.2.2.2.2.2.2.1 v) ?_
  rw [if_neg]
  · exact h
  · intro h0
    have h1 := hp.wf.2.2.2.2.2.1
    have h2 := hp.wf.2.2.1
    have : qw pl = 0 := by
      rcases Nat.mul_eq_zero.mp h0 with e | e
      · exact e
      · exact h2.mpr e
    omega
theorem k_stoneOf {P : jM → Int32 → Prop} {o n : Nat} {f : Nat → Nat} (a0 : aX5 tb p) (hp : cPl M p pl) (so : js tb o = (20, n)) (hn : n < 2 ^ 31) (hcn : qc pl ≤ n) (hf : ∀ c, c < qc pl → M.1 o c = nI (f c)) (hb : ∀ c, f c ≤ 99) (h : P M (nI (qStone pl f (qc pl)))) : JC x tb mX5_stoneOf (d + 1) [.ref (x.2.2.2 p), .ref (x.2.2.2 o)] M (jI P) := by
  have h25 := hp.wf.c25
  refine b_X5_stoneOf ?_
  refine jloop (fun i (a : Int32) => JW x tb mX5_stoneOf (d + 1) (jI P) 4 [(0, .ref (x.2.2.2 p)), (1, .ref (x.2.2.2 o)), (2, .int a), (3, .int (nI i))] [] M) (fun i a => a = nI (qStone pl f i)) (qc pl) ?_ ?_ 0 0 (Nat.zero_le _) rfl
  · rintro _ rfl
    refine b_X5_stoneOf_4 a0 so hn ?_
    rw [hp.c]
    exact pk_le (qc pl) (qc pl) (fun _ => h) (fun c => absurd c (by omega))
  · rintro i _ hi rfl ih
    refine b_X5_stoneOf_4 a0 so hn ?_
    rw [hp.c]
    refine pk_le (qc pl) i (fun c => absurd c (by omega)) (fun _ => ⟨i, by omega, rfl, by omega, ?_⟩)
    rw [hf i hi, hp.least (by omega)]
    refine k_maxS (by have := hb i; omega) (by have := hp.wf.2.2.2.2.2.2.2.1 i; omega) ?_
    rw [hp.price (by omega), pk_mul, nI_add, nI_1]
    exact ih _ rfl
end KPL
