/-! the state of the whole, as numbers; what the class's and the model's memories hold of it -/
def qWl : List Nat := [632645, 441972, 12748404, 17376357, 23937287397, 627891, 18916965, 13098162, 89, 20594253, 762030, 103820, 52, 624037, 20594117, 409072, 5572, 643568, 14, 453, 5, 613, 19, 631, 23, 471]
def qWord (k : Nat) : Int64 := lN (qWl.getD k 0)
abbrev qZ : Type := Int32 × (Int64 × Int64) × (Nat → qT) × (Nat × (Nat → Int32)) × (Int32 × Int32) × qW × (Nat × (Nat → qW)) × (Nat × (Nat → Nat)) × (Nat → Int32)
abbrev zTr (z : qZ) : Nat → qT := z.2.2.1
abbrev zTp (z : qZ) : Nat × (Nat → Int32) := z.2.2.2.1
abbrev zFa (z : qZ) : Int32 × Int32 := z.2.2.2.2.1
abbrev zNw (z : qZ) : qW := z.2.2.2.2.2.1
abbrev zMk (z : qZ) : Nat × (Nat → qW) := z.2.2.2.2.2.2.1
abbrev zOr (z : qZ) : Nat × (Nat → Nat) := z.2.2.2.2.2.2.2.1
abbrev zBl (z : qZ) : Nat → Int32 := z.2.2.2.2.2.2.2.2
abbrev zP (z : qZ) : qP := (zNw z).1
abbrev zT (z : qZ) : Nat → Nat := (zNw z).2.1
def uSt (z : qZ) (v : Int32) : qZ := (v, z.2)
def uFr (z : qZ) (v : Int64 × Int64) : qZ := (z.1, v, z.2.2)
def uTr (z : qZ) (v : Nat → qT) : qZ := (z.1, z.2.1, v, z.2.2.2)
def uTp (z : qZ) (v : Nat × (Nat → Int32)) : qZ := (z.1, z.2.1, z.2.2.1, v, z.2.2.2.2)
def uFa (z : qZ) (v : Int32 × Int32) : qZ := (z.1, z.2.1, z.2.2.1, z.2.2.2.1, v, z.2.2.2.2.2)
def uNw (z : qZ) (v : qW) : qZ := (z.1, z.2.1, z.2.2.1, z.2.2.2.1, z.2.2.2.2.1, v, z.2.2.2.2.2.2)
def uMk (z : qZ) (v : Nat × (Nat → qW)) : qZ := (z.1, z.2.1, z.2.2.1, z.2.2.2.1, z.2.2.2.2.1, z.2.2.2.2.2.1, v, z.2.2.2.2.2.2.2)
def uOr (z : qZ) (v : Nat × (Nat → Nat)) : qZ := (z.1, z.2.1, z.2.2.1, z.2.2.2.1, z.2.2.2.2.1, z.2.2.2.2.2.1, z.2.2.2.2.2.2.1, v, z.2.2.2.2.2.2.2.2)
def uBl (z : qZ) (v : Nat → Int32) : qZ := (z.1, z.2.1, z.2.2.1, z.2.2.2.1, z.2.2.2.2.1, z.2.2.2.2.2.1, z.2.2.2.2.2.2.1, z.2.2.2.2.2.2.2.1, v)
/-- acts: steps ahead of place a; a row of acts that is well formed over a plain -/
def qStp (o : qO) : Nat → Nat
  | 0 => 0
  | a + 1 => qStp o a + (if o.2 0 a = 16 then 0 else 1)
def oSg (v : Int32) : Prop := v = 60 ∨ v = 61 ∨ v = 62
def oNm (v : Int32) (lo hi : Nat) : Prop := ∃ m, lo ≤ m ∧ m ≤ hi ∧ v = nI m
def oAct (pl : qP) (o : qO) (n a : Nat) : Prop :=
  ((o.2 0 a = 6 ∨ o.2 0 a = 7) ∧ (∃ c, c < qc pl ∧ o.2 2 a = nI c) ∧ oNm (o.2 5 a) 1 99) ∨ (o.2 0 a = 9 ∧ oNm (o.2 5 a) 1 99) ∨ o.2 0 a = 17 ∨
  (o.2 0 a = 15 ∧ oNm (o.2 5 a) 1 99 ∧ ∃ e, a < e ∧ e < n ∧ o.2 6 a = nI e ∧ o.2 0 e = 16 ∧ o.2 6 e = nI a) ∨
  (o.2 0 a = 10 ∧ (∃ e, a < e ∧ e < n ∧ o.2 6 a = nI e ∧ o.2 0 e = 16 ∧ o.2 6 e = nI a) ∧
    ((o.2 1 a = 11 ∧ (∃ c, c < qc pl ∧ o.2 2 a = nI c) ∧ oSg (o.2 4 a) ∧ oNm (o.2 5 a) 0 99) ∨ (o.2 1 a = 5 ∧ (∃ v, v < qn pl ∧ o.2 2 a = nI v) ∧ oNm (o.2 3 a) 0 8 ∧ oSg (o.2 4 a) ∧ oNm (o.2 5 a) 0 99) ∨ (o.2 1 a = 13 ∧ ∃ v, v < qn pl ∧ o.2 2 a = nI v) ∨ (o.2 1 a = 14 ∧ oSg (o.2 4 a) ∧ oNm (o.2 5 a) 0 9999))) ∨
  (o.2 0 a = 16 ∧ ∃ b, b < a ∧ o.2 6 a = nI b ∧ (o.2 0 b = 10 ∨ o.2 0 b = 15) ∧ o.2 6 b = nI a)
/-- blocks lie within blocks -/
def oNest (o : qO) (n : Nat) : Prop := ∀ a e b, a < e → e < n → o.2 6 a = nI e → o.2 0 e = 16 → o.2 6 e = nI a → a < b → b < e → ((o.2 0 b = 10 ∨ o.2 0 b = 15) → ∃ f, b < f ∧ f < e ∧ o.2 6 b = nI f) ∧ (o.2 0 b = 16 → ∃ f, a < f ∧ f < b ∧ o.2 6 b = nI f)
def oOk (pl : qP) (o : qO) : Prop := o.1 0 = 1 → ∃ n, n ≤ 60 ∧ o.1 2 = nI n ∧ o.1 1 = nI (qStp o n) ∧ qStp o n ≤ 30 ∧ (∀ a, a < n → oAct pl o n a) ∧ oNest o n
/-- what is told of a state at any time -/
def zOk (z : qZ) : Prop := (zTp z).1 ≤ 900 ∧ (∀ k, -128 ≤ ((zTp z).2 k).toInt ∧ ((zTp z).2 k).toInt < 128) ∧ oOk (zNw z).1 (zNw z).2.2 ∧ (zMk z).1 ≤ 3 ∧ (∀ m, m < (zMk z).1 → oOk ((zMk z).2 m).1 ((zMk z).2 m).2.2) ∧ (zOr z).1 ≤ 12 ∧ (∀ k, (zOr z).2 k < 25)
/-- the class -/
def cI (M : jM) (z : qZ) : Prop :=
  M.1 0 16 = z.1 ∧ M.2 75 0 = z.2.1.1 ∧ M.2 75 1 = z.2.1.2 ∧ (∀ t, t < 4 → cTr M (77 + 2 * t) (zTr z t)) ∧ M.1 0 14 = nI (zTp z).1 ∧ (∀ k, k < (zTp z).1 → M.1 2 k = (zTp z).2 k) ∧ M.1 76 0 = (zFa z).1 ∧ M.1 76 1 = (zFa z).2 ∧ cWd M 29 (zNw z) ∧ M.1 0 15 = nI (zMk z).1 ∧ (∀ m, m < (zMk z).1 → cWd M (85 + 19 * m) ((zMk z).2 m)) ∧
  M.1 62 3 = nI (zOr z).1 ∧ (∀ k, k < (zOr z).1 → M.1 65 k = nI ((zOr z).2 k)) ∧ (∀ k, k < 3 → M.1 74 k = zBl z k) ∧ (∀ k, k < 26 → M.2 14 k = qWord k ∧ M.2 26 k = qWord k) ∧ zOk z
/-- rows of the class that hold nothing from one call to the next -/
def cScr (q : Nat) : Prop := (3 ≤ q ∧ q ≤ 28 ∧ q ≠ 14 ∧ q ≠ 26) ∨ q = 38 ∨ (49 ≤ q ∧ q ≤ 61) ∨ q = 63 ∨ q = 64 ∨ (66 ≤ q ∧ q ≤ 73)
theorem cI.scr {M M' : jM} {z : qZ} (h : cI M z) (hs : jsame cScr M M') : cI M' z := by
  obtain ⟨a1, a2, a3, a4, a5, a6, a7, a8, a9, a10, a11, a12, a13, a14, a15, a16⟩ := h
  have r : ∀ q, ¬ cScr q → M'.1 q = M.1 q ∧ M'.2 q = M.2 q := hs
  have ok : zOk z := a16
  refine ⟨by rw [(r 0 (by unfold cScr; omega)).1]; exact a1, by rw [(r 75 (by unfold cScr; omega)).2]; exact a2, by rw [(r 75 (by unfold cScr; omega)).2]; exact a3, fun t ht => (a4 t ht).keep (r _ (by unfold cScr; omega)).1 (r _ (by unfold cScr; omega)).2, by rw [(r 0 (by unfold cScr; omega)).1]; exact a5, fun k hk => by rw [(r 2 (by unfold cScr; omega)).1]; exact a6 k hk, by rw [(r 76 (by unfold cScr; omega)).1]; exact a7, by rw [(r 76 (by unfold cScr; omega)).1]; exact a8, a9.keep (fun q q1 q2 q3 => (r q (by unfold cScr; omega)).1) (r _ (by unfold cScr; omega)).2, by rw [(r 0 (by unfold cScr; omega)).1]; exact a10, fun m hm => (a11 m hm).keep (fun q q1 q2 q3 => (r q (by unfold cScr; omega)).1) (r _ (by unfold cScr; omega)).2, by rw [(r 62 (by unfold cScr; omega)).1]; exact a12, fun k hk => by rw [(r 65 (by unfold cScr; omega)).1]; exact a13 k hk, fun k hk => by rw [(r 74 (by unfold cScr; omega)).1]; exact a14 k hk, fun k hk => by rw [(r 14 (by unfold cScr; omega)).2, (r 26 (by unfold cScr; omega)).2]; exact a15 k hk, a16⟩
theorem cI.st {M : jM} {z : qZ} (h : cI M z) (v : Int32) : cI (jrI M 0 (upd (M.1 0) 16 v)) (uSt z v) := by
  obtain ⟨a1, a2, a3, a4, a5, a6, a7, a8, a9, a10, a11, a12, a13, a14, a15, a16⟩ := h
  have r : ∀ q, q ≠ 0 → (jrI M 0 (upd (M.1 0) 16 v)).1 q = M.1 q := fun q hq => jrI_n hq
  refine ⟨by rw [jrI_s, pk_us]; rfl, a2, a3, fun t ht => (a4 t ht).keep (r _ (by omega)) rfl, by rw [jrI_s, pk_un (by omega)]; exact a5, fun k hk => by rw [r 2 (by omega)]; exact a6 k hk, by rw [r 76 (by omega)]; exact a7, by rw [r 76 (by omega)]; exact a8, a9.keep (fun q q1 q2 q3 => r q (by omega)) rfl, by rw [jrI_s, pk_un (by omega)]; exact a10, fun m hm => (a11 m hm).keep (fun q q1 q2 q3 => r q (by omega)) rfl, by rw [r 62 (by omega)]; exact a12, fun k hk => by rw [r 65 (by omega)]; exact a13 k hk, fun k hk => by rw [r 74 (by omega)]; exact a14 k hk, a15, a16⟩
theorem cI.ok {M : jM} {z : qZ} (h : cI M z) : zOk z := h.2.2.2.2.2.2.2.2.2.2.2.2.2.2.2
theorem cI.nw {M : jM} {z : qZ} (h : cI M z) : cWd M 29 (zNw z) := h.2.2.2.2.2.2.2.2.1
theorem cI.pl {M : jM} {z : qZ} (h : cI M z) : cPl M 30 (zP z) := h.nw.1
/-- the model -/
def mTr (N : jM) (t : Nat) (r : qT) : Prop := N.1 2 t = (if r.1 then nI r.2.2.1 else -1) ∧ (r.1 = true → N.1 1 t = nI r.2.1) ∧ (r.1 = true → ∀ k, k < r.2.2.1 → N.2 3 (60 * t + k) = r.2.2.2 k) ∧ r.2.1 ≤ 3 ∧ r.2.2.1 ≤ 60
def mKd (k : Int32) : Int32 := if k = 6 then 0 else if k = 7 then 1 else if k = 9 then 2 else if k = 10 then 3 else if k = 15 then 4 else 5
def mTs (k : Int32) : Int32 := if k = 11 then 0 else if k = 5 then 1 else if k = 13 then 2 else 3
/-- a step of the model at place w of its row, beside an act of the class -/
def mStep (c : Nat → Int32) (pl : qP) (o : qO) (a w : Nat) : Prop :=
  c w = mKd (o.2 0 a) ∧ ((o.2 0 a = 6 ∨ o.2 0 a = 7) → (∃ X Y, X < qw pl ∧ Y < qh pl ∧ o.2 2 a = nI (Y * qw pl + X) ∧ c (w + 1) = nI X ∧ c (w + 2) = nI Y) ∧ c (w + 3) = o.2 5 a) ∧ ((o.2 0 a = 9 ∨ o.2 0 a = 15) → c (w + 3) = o.2 5 a) ∧
  (o.2 0 a = 10 → c (w + 4) = mTs (o.2 1 a) ∧ (o.2 1 a = 11 → (∃ X Y, X < qw pl ∧ Y < qh pl ∧ o.2 2 a = nI (Y * qw pl + X) ∧ c (w + 1) = nI X ∧ c (w + 2) = nI Y) ∧ c (w + 5) = o.2 4 a ∧ c (w + 6) = o.2 5 a) ∧ (o.2 1 a = 5 → c (w + 1) = o.2 2 a ∧ c (w + 2) = o.2 3 a ∧ c (w + 5) = o.2 4 a ∧ c (w + 6) = o.2 5 a) ∧ (o.2 1 a = 13 → c (w + 1) = o.2 2 a) ∧ (o.2 1 a = 14 → c (w + 5) = o.2 4 a ∧ c (w + 6) = o.2 5 a)) ∧
  (¬ (o.2 0 a = 10 ∨ o.2 0 a = 15) → c (w + 7) = nI (qStp o a + 1)) ∧ ((o.2 0 a = 10 ∨ o.2 0 a = 15) → ∀ e, o.2 6 a = nI e → e < 60 → c (w + 7) = nI (qStp o e))
def mOr (c : Nat → Int32) (pl : qP) (o : qO) : Prop := c 169 = o.1 0 ∧ (o.1 0 = 0 ∨ o.1 0 = 1) ∧ (o.1 0 = 1 → c 170 = o.1 1 ∧ ∀ n, n ≤ 60 → o.1 2 = nI n → ∀ a, a < n → ¬ o.2 0 a = 16 → mStep c pl o a (171 + 8 * qStp o a))
def mWd (N : jM) (b : Nat) (w : qW) : Prop := mPl (fun k => N.1 5 (412 * b + k)) w.1 ∧ (∀ v, v < qn w.1 → N.2 6 (6 * b + v) = qName w.1 v) ∧ mTn (fun k => N.1 5 (412 * b + k)) w.1 w.2.1 ∧ mOr (fun k => N.1 5 (412 * b + k)) w.1 w.2.2
def mI (N : jM) (z : qZ) : Prop :=
  N.1 0 0 = z.1 ∧ N.2 0 2 = z.2.1.1 ∧ N.2 0 3 = z.2.1.2 ∧ (∀ t, t < 4 → mTr N t (zTr z t)) ∧ N.1 0 8 = nI (zTp z).1 ∧ (∀ k, k < (zTp z).1 → N.1 4 k = (zTp z).2 k) ∧ N.1 0 10 = (zFa z).1 ∧ N.1 0 11 = (zFa z).2 ∧ mWd N 0 (zNw z) ∧ N.1 0 25 = nI (zMk z).1 ∧ (∀ m, m < (zMk z).1 → mWd N (m + 1) ((zMk z).2 m)) ∧
  N.1 0 39 = nI (zOr z).1 ∧ (∀ k, k < (zOr z).1 → N.1 13 k = nI ((zOr z).2 k)) ∧ ((N.1 0 49 = 0 ∧ ∀ k, k < 3 → zBl z k = -1) ∨ (N.1 0 49 = 1 ∧ ∀ k, k < 3 → N.1 16 k = zBl z k ∧ ¬ zBl z k = -1)) ∧ zOk z
/-- slots and rows of the model that hold nothing from one call to the next -/
def mScr (q : Nat) : Prop := (7 ≤ q ∧ q ≤ 12) ∨ q = 14 ∨ q = 15 ∨ (17 ≤ q ∧ q ≤ 19)
def mScI (k : Nat) : Prop := k = 1 ∨ k = 9 ∨ (12 ≤ k ∧ k ≤ 21) ∨ (31 ≤ k ∧ k ≤ 35) ∨ k = 40 ∨ (42 ≤ k ∧ k ≤ 46) ∨ k = 50 ∨ k = 53
/-- the model's row 0 but for such slots, and all rows but such rows, stay; of row 5 what lies behind the blocks may change, and of row 6 -/
def mSame (M M' : jM) : Prop := (∀ q, ¬ mScr q → q ≠ 0 → q ≠ 5 → q ≠ 6 → M'.1 q = M.1 q ∧ M'.2 q = M.2 q) ∧ (∀ k, ¬ mScI k → M'.1 0 k = M.1 0 k) ∧ (∀ k, k ≠ 22 → M'.2 0 k = M.2 0 k) ∧ (∀ k, k < 1648 → M'.1 5 k = M.1 5 k) ∧ (∀ k, k < 24 → M'.2 6 k = M.2 6 k)
