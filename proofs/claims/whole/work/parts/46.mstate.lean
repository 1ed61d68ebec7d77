theorem qStp_mono (o : qO) : ∀ {a b : Nat}, a ≤ b → qStp o a ≤ qStp o b := by
  intro a b h
  induction b with
  | zero => obtain rfl : a = 0 := by omega
            exact Nat.le_refl _
  | succ b ih =>
    rcases Nat.lt_or_ge a (b + 1) with q | q
    · have := ih (by omega)
      show qStp o a ≤ qStp o b + (if o.2 0 b = 16 then 0 else 1)
      omega
    · obtain rfl : a = b + 1 := by omega
      exact Nat.le_refl _
theorem qStp_lt {o : qO} {a n : Nat} (h : a < n) (hk : ¬ o.2 0 a = 16) : qStp o a < qStp o n := by
  have h1 : qStp o (a + 1) ≤ qStp o n := qStp_mono o h
  have h2 : qStp o (a + 1) = qStp o a + 1 := by
    show qStp o a + (if o.2 0 a = 16 then 0 else 1) = _
    rw [if_neg hk]
  omega
section MST
variable {c c' : Nat → Int32} {pl : qP} {o : qO} {f : Nat → Nat}
theorem mPl.keep (h : mPl c pl) (hc : ∀ k, k < 144 → c' k = c k) : mPl c' pl := by
  have w := h.wf
  have h6 := w.2.2.2.1
  refine ⟨by rw [hc 0 (by omega)]; exact h.w, by rw [hc 1 (by omega)]; exact h.h, by rw [hc 2 (by omega)]; exact h.n, fun k hk => by rw [hc _ (by omega)]; exact h.most hk, fun k hk => by rw [hc _ (by omega)]; exact h.least hk, fun k hk => by rw [hc _ (by omega)]; exact h.price hk, fun v hv => by rw [hc _ (by omega)]; exact h.side hv, fun v hv => by rw [hc _ (by omega)]; exact h.has hv, fun v s hv hk hs => ?_, w⟩
  have h9 := qSt_le w v
  rw [hc _ (by omega)]
  exact h.line hv hk hs
theorem mTn.keep (h : mTn c pl f) (w : qWf pl) (hc : ∀ k, 144 ≤ k → k < 169 → c' k = c k) : mTn c' pl f := by
  have := w.c25
  exact ⟨fun k hk => by rw [hc _ (by omega) (by omega)]; exact h.1 k hk, h.2⟩
theorem mStep.keep {a w : Nat} (h : mStep c pl o a w) (hc : ∀ k, k < 8 → c' (w + k) = c (w + k)) : mStep c' pl o a w := by
  have e0 : c' w = c w := hc 0 (by omega)
  unfold mStep
  rw [e0, hc 1 (by omega), hc 2 (by omega), hc 3 (by omega), hc 4 (by omega), hc 5 (by omega), hc 6 (by omega), hc 7 (by omega)]
  exact h
theorem mOr.keep (h : mOr c pl o) (hk : oOk pl o) (hc : ∀ k, 169 ≤ k → k < 412 → c' k = c k) : mOr c' pl o := by
  obtain ⟨h1, h2, h3⟩ := h
  refine ⟨by rw [hc 169 (by omega) (by omega)]; exact h1, h2, fun e => ?_⟩
  obtain ⟨g1, g2⟩ := h3 e
  obtain ⟨n, n1, n2, n3, n4, n5, n6⟩ := hk e
  refine ⟨by rw [hc 170 (by omega) (by omega)]; exact g1, fun n' hn' e' a ha hE => ?_⟩
  have := g2 n' hn' e' a ha hE
  obtain rfl : n' = n := by
    rw [n2] at e'
    exact ((nI_eq (by omega) (by omega)).mp e').symm
  have hl := qStp_lt ha hE
  exact this.keep (fun k hk => hc _ (by omega) (by omega))
theorem mWd.keep {N N' : jM} {b : Nat} {w : qW} (h : mWd N b w) (hk : oOk w.1 w.2.2) (h1 : ∀ k, k < 412 → N'.1 5 (412 * b + k) = N.1 5 (412 * b + k)) (h2 : ∀ k, k < 6 → N'.2 6 (6 * b + k) = N.2 6 (6 * b + k)) : mWd N' b w := by
  obtain ⟨a1, a2, a3, a4⟩ := h
  have h6 := a1.wf.2.2.2.1
  exact ⟨a1.keep (fun k hk => h1 k (by omega)), fun v hv => by rw [h2 v (by omega)]; exact a2 v hv, a3.keep a1.wf (fun k _ hk => h1 k (by omega)), a4.keep hk (fun k _ hk => h1 k hk)⟩
end MST
theorem mTr.keep {N N' : jM} {t : Nat} {r : qT} (h : mTr N t r) (h1 : N'.1 2 t = N.1 2 t) (h2 : N'.1 1 t = N.1 1 t) (h3 : ∀ k, k < 60 → N'.2 3 (60 * t + k) = N.2 3 (60 * t + k)) : mTr N' t r := by
  obtain ⟨a1, a2, a3, a4, a5⟩ := h
  exact ⟨by rw [h1]; exact a1, fun e => by rw [h2]; exact a2 e, fun e k hk => by rw [h3 k (by omega)]; exact a3 e k hk, a4, a5⟩
theorem mSame.rf {M : jM} : mSame M M := ⟨fun _ _ _ _ _ => ⟨rfl, rfl⟩, fun _ _ => rfl, fun _ _ => rfl, fun _ _ => rfl, fun _ _ => rfl⟩
theorem mSame.tr {M M' M'' : jM} (h : mSame M M') (h2 : mSame M' M'') : mSame M M'' :=
  ⟨fun q a b c e => ⟨(h2.1 q a b c e).1.trans (h.1 q a b c e).1, (h2.1 q a b c e).2.trans (h.1 q a b c e).2⟩, fun k hk => (h2.2.1 k hk).trans (h.2.1 k hk), fun k hk => (h2.2.2.1 k hk).trans (h.2.2.1 k hk), fun k hk => (h2.2.2.2.1 k hk).trans (h.2.2.2.1 k hk), fun k hk => (h2.2.2.2.2 k hk).trans (h.2.2.2.2 k hk)⟩
theorem mI.keep {N N' : jM} {z : qZ} (h : mI N z) (s : mSame N N') : mI N' z := by
  obtain ⟨a1, a2, a3, a4, a5, a6, a7, a8, a9, a10, a11, a12, a13, a14, a15⟩ := h
  obtain ⟨s1, s2, s3, s4, s5⟩ := s
  have ok : zOk z := a15
  obtain ⟨k1, k2, k3, k4, k5, k6, k7⟩ := id a15
  refine ⟨by rw [s2 0 (by unfold mScI; omega)]; exact a1, by rw [s3 2 (by omega)]; exact a2, by rw [s3 3 (by omega)]; exact a3, fun t ht => (a4 t ht).keep (by rw [(s1 2 (by unfold mScr; omega) (by omega) (by omega) (by omega)).1]) (by rw [(s1 1 (by unfold mScr; omega) (by omega) (by omega) (by omega)).1]) (fun k _ => by rw [(s1 3 (by unfold mScr; omega) (by omega) (by omega) (by omega)).2]), by rw [s2 8 (by unfold mScI; omega)]; exact a5, fun k hk => by rw [(s1 4 (by unfold mScr; omega) (by omega) (by omega) (by omega)).1]; exact a6 k hk, by rw [s2 10 (by unfold mScI; omega)]; exact a7, by rw [s2 11 (by unfold mScI; omega)]; exact a8, a9.keep k3 (fun k hk => s4 _ (by omega)) (fun k hk => s5 _ (by omega)), by rw [s2 25 (by unfold mScI; omega)]; exact a10, fun m hm => (a11 m hm).keep (k5 m hm) (fun k hk => s4 _ (by omega)) (fun k hk => s5 _ (by omega)), by rw [s2 39 (by unfold mScI; omega)]; exact a12, fun k hk => by rw [(s1 13 (by unfold mScr; omega) (by omega) (by omega) (by omega)).1]; exact a13 k hk, ?_, a15⟩
  rw [s2 49 (by unfold mScI; omega), (s1 16 (by unfold mScr; omega) (by omega) (by omega) (by omega)).1]
  exact a14
/-- a scratch slot of row 0 is set -/
theorem mSame.slot {M : jM} {k : Nat} {v : Int32} (hk : mScI k) : mSame M (jrI M 0 (upd (M.1 0) k v)) :=
  ⟨fun q _ h0 _ _ => ⟨jrI_n h0, rfl⟩, fun j hj => by have e : j ≠ k := (fun e => hj (by rw [e]; exact hk)); rw [jrI_s, pk_un e], fun _ _ => rfl, fun j _ => by rw [jrI_n (by omega)], fun _ _ => rfl⟩
theorem mSame.row {M M' : jM} (h : jsame mScr M M') : mSame M M' :=
  ⟨fun q h1 _ _ _ => h q h1, fun j _ => by rw [(h 0 (by unfold mScr; omega)).1], fun _ _ => by rw [(h 0 (by unfold mScr; omega)).2], fun j _ => by rw [(h 5 (by unfold mScr; omega)).1], fun j _ => by rw [(h 6 (by unfold mScr; omega)).2]⟩
theorem mI.st {N : jM} {z : qZ} (h : mI N z) (v : Int32) : mI (jrI N 0 (upd (N.1 0) 0 v)) (uSt z v) := by
  obtain ⟨a1, a2, a3, a4, a5, a6, a7, a8, a9, a10, a11, a12, a13, a14, a15⟩ := h
  have r : ∀ q, q ≠ 0 → (jrI N 0 (upd (N.1 0) 0 v)).1 q = N.1 q := fun q hq => jrI_n hq
  have t : ∀ k, k ≠ 0 → (jrI N 0 (upd (N.1 0) 0 v)).1 0 k = N.1 0 k := fun k hk => by rw [jrI_s, pk_un hk]
  obtain ⟨k1, k2, k3, k4, k5, k6, k7⟩ := id a15
  refine ⟨by rw [jrI_s, pk_us]; rfl, a2, a3, fun q hq => (a4 q hq).keep (by rw [r 2 (by omega)]) (by rw [r 1 (by omega)]) (fun _ _ => rfl), by rw [t 8 (by omega)]; exact a5, fun k hk => by rw [r 4 (by omega)]; exact a6 k hk, by rw [t 10 (by omega)]; exact a7, by rw [t 11 (by omega)]; exact a8, a9.keep k3 (fun k hk => by rw [r 5 (by omega)]) (fun _ _ => rfl), by rw [t 25 (by omega)]; exact a10, fun m hm => (a11 m hm).keep (k5 m hm) (fun k hk => by rw [r 5 (by omega)]) (fun _ _ => rfl), by rw [t 39 (by omega)]; exact a12, fun k hk => by rw [r 13 (by omega)]; exact a13 k hk, ?_, a15⟩
  rw [t 49 (by omega), r 16 (by omega)]
  exact a14
theorem mI.th {N : jM} {z : qZ} (h : mI N z) (v : Int32) : mI (jrI N 0 (upd (N.1 0) 1 v)) z := h.keep (mSame.slot (Or.inl rfl))
theorem mWd0 {N : jM} {w : qW} (h : mWd N 0 w) : mPl (N.1 5) w.1 ∧ (∀ v, v < qn w.1 → N.2 6 v = qName w.1 v) ∧ mTn (N.1 5) w.1 w.2.1 ∧ mOr (N.1 5) w.1 w.2.2 := by
  have e : (fun k => N.1 5 (412 * 0 + k)) = N.1 5 := by funext k; rw [Nat.mul_zero, Nat.zero_add]
  obtain ⟨a1, a2, a3, a4⟩ := h
  rw [e] at a1 a3 a4
  exact ⟨a1, fun v hv => by have := a2 v hv; rw [Nat.mul_zero, Nat.zero_add] at this; exact this, a3, a4⟩
theorem mI.nw {N : jM} {z : qZ} (h : mI N z) : mWd N 0 (zNw z) := h.2.2.2.2.2.2.2.2.1
theorem mI.pl {N : jM} {z : qZ} (h : mI N z) : mPl (N.1 5) (zP z) := (mWd0 h.nw).1
theorem mI.tn {N : jM} {z : qZ} (h : mI N z) : mTn (N.1 5) (zP z) (zT z) := (mWd0 h.nw).2.2.1
theorem mI.ok {N : jM} {z : qZ} (h : mI N z) : zOk z := h.2.2.2.2.2.2.2.2.2.2.2.2.2.2
/-- answers -/
def an {α : Type} (z : qZ) (v : α) : qZ × α := (uSt z 0, v)
def rf (z : qZ) (why : Int32) : qZ × Int32 := (uSt z why, -1)
def rb (z : qZ) (why : Int32) : qZ × Bool := (uSt z why, decide (why = 0))
theorem uSt_uSt (z : qZ) (a b : Int32) : uSt (uSt z a) b = uSt z b := rfl
section ANS
variable {x : jX} {d : Nat} {M : jM} {z : qZ}
theorem c_answered {P : jM → Int32 → Prop} {v : Int32} (h : cI M z) (hP : ∀ M', cI M' (uSt z 0) → P M' v) : JC x jtbC mX11_answered d [.ref (x.2.2.2 0), .int v] M (jI P) := by
  refine b_X11_answered ?_
  rintro M1 rfl
  exact hP _ (h.st 0)
theorem c_refused {P : jM → Int32 → Prop} {v : Int32} (h : cI M z) (hP : ∀ M', cI M' (uSt z v) → P M' (-1)) : JC x jtbC mX11_refused d [.ref (x.2.2.2 0), .int v] M (jI P) := by
  refine b_X11_refused ?_
  rintro M1 rfl
  exact hP _ (h.st v)
theorem c_isDone {P : jM → Bool → Prop} {v : Int32} (h : cI M z) (hP : ∀ M', cI M' (uSt z v) → P M' (decide (v = 0))) : JC x jtbC mX11_isDone d [.ref (x.2.2.2 0), .int v] M (jZ P) := by
  refine b_X11_isDone ?_
  rintro M1 rfl
  have := hP _ (h.st v)
  exact ⟨fun c => by rw [decide_eq_false c] at this; exact this, fun c => by rw [decide_eq_true c] at this; exact this⟩
theorem m_refuse {P : jM → Int32 → Prop} {v : Int32} (h : mI M z) (hP : ∀ M', mI M' (uSt z v) → P M' (-1)) : JC x jtbM mX12_refuse d [.ref (x.2.2.2 0), .int v] M (jI P) := by
  refine b_X12_refuse ?_
  rintro M1 rfl
  exact hP _ (h.st v)
theorem m_no {P : jM → Bool → Prop} {v : Int32} (h : mI M z) (hP : ∀ M', mI M' (uSt z v) → P M' false) : JC x jtbM mX12_no d [.ref (x.2.2.2 0), .int v] M (jZ P) := by
  refine b_X12_no ?_
  rintro M1 rfl
  exact hP _ (h.st v)
end ANS
