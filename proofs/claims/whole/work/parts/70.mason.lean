/-! masons at work: heights, draws, steps, stones laid and taken, whether it is over, what is left -/
abbrev qR : Type := (Nat → Nat) × Nat × Nat × Nat × Nat × Bool × Nat
abbrev rT (s : qR) : Nat → Nat := s.1
abbrev rD (s : qR) : Nat := s.2.1
abbrev rS (s : qR) : Nat := s.2.2.1
abbrev rL (s : qR) : Nat := s.2.2.2.1
abbrev rK (s : qR) : Nat := s.2.2.2.2.1
abbrev rO (s : qR) : Bool := s.2.2.2.2.2.1
abbrev rF (s : qR) : Nat := s.2.2.2.2.2.2
def qInc (s : qR) : qR := (rT s, rD s, rS s + 1, rL s, rK s, rO s, rF s)
def qLay (s : qR) (c m : Nat) : qR := (tset (rT s) c (rT s c + min m (99 - rT s c)), rD s, rS s, rL s + min m (99 - rT s c), rK s, rO s, rF s)
def qTake (s : qR) (c m : Nat) : qR := (tset (rT s) c (rT s c - min m (rT s c)), rD s, rS s, rL s, rK s + min m (rT s c), rO s, rF s)
def qDrw (s : qR) : qR := (rT s, (rD s * 2861 + 12007) % 65536, rS s, rL s, rK s, rO s, rF s)
def qRage (cells : Nat) : Nat → qR → qR
  | 0, s => s
  | k + 1, s => qTake (qDrw (qRage cells k s)) (rD (qDrw (qRage cells k s)) / 8 % cells) 1
def qOver (s : qR) (l : Nat) : qR := (rT s, rD s, rS s, rL s, rK s, true, l)
def qCmp (v : Nat) (sg : Int32) (n : Nat) : Bool := if sg = 60 then decide (v < n) else if sg = 62 then decide (n < v) else decide (v = n)
def oN (o : qO) (r a : Nat) : Nat := (o.2 r a).toNatClampNeg
def qIsSo (pl : qP) (o : qO) (a : Nat) (t : Nat → Nat) : Bool :=
  if o.2 1 a = 5 then decide (oN o 3 a < qSt pl (oN o 2 a)) && qCmp (qG (qw pl) (qh pl) (qSide pl (oN o 2 a)) (oN o 3 a) t (qc pl)) (o.2 4 a) (oN o 5 a)
  else if o.2 1 a = 11 then qCmp (t (oN o 2 a)) (o.2 4 a) (oN o 5 a)
  else if o.2 1 a = 13 then (qk pl).testBit (oN o 2 a) && decide (¬ qUs pl t (oN o 2 a) < qSt pl (oN o 2 a))
  else qCmp (qStone pl t (qc pl)) (o.2 4 a) (oN o 5 a)
def qDo (pl : qP) (o : qO) (a : Nat) (s : qR) : qR :=
  if o.2 0 a = 6 then qLay s (oN o 2 a) (oN o 5 a) else if o.2 0 a = 7 then qTake s (oN o 2 a) (oN o 5 a) else if o.2 0 a = 9 then (if qc pl = 0 then s else qRage (qc pl) (oN o 5 a) s) else qOver s (rF s)
def qIt (f : qR → qR) : Nat → qR → qR
  | 0, s => s
  | k + 1, s => qIt f k (f s)
def qExec (pl : qP) (o : qO) : Nat → Nat → Nat → qR → qR
  | 0, _, _, s => s
  | n + 1, a, e, s => if rO s = true ∨ e ≤ a then s else if rS s = 400 then qOver s 1 else
    if o.2 0 a = 10 then qExec pl o n (oN o 6 a + 1) e (if qIsSo pl o a (rT s) then qExec pl o n (a + 1) (oN o 6 a) (qInc s) else qInc s)
    else if o.2 0 a = 15 then qExec pl o n (oN o 6 a + 1) e (qIt (qExec pl o n (a + 1) (oN o 6 a)) (oN o 5 a) (qInc s))
    else qExec pl o n (a + 1) e (qDo pl o a (qInc s))
/-- what holds of such a state at any time -/
def rOk (s : qR) : Prop := (∀ c, rT s c ≤ 99) ∧ rD s < 65536 ∧ rS s ≤ 400 ∧ rL s ≤ 99 * rS s ∧ rK s ≤ 99 * rS s
theorem exec_over {pl : qP} {o : qO} {n a e : Nat} {s : qR} (h : rO s = true) : qExec pl o n a e s = s := by
  cases n with
  | zero => rfl
  | succ n => rw [qExec, if_pos (Or.inl h)]
theorem qIt_over {f : qR → qR} (hf : ∀ s, rO s = true → f s = s) : ∀ k s, rO s = true → qIt f k s = s
  | 0, _, _ => rfl
  | k + 1, s, h => by
    show qIt f k (f s) = s
    rw [hf s h]
    exact qIt_over hf k s h
/-- blocks -/
def qBk (o : qO) (N a e : Nat) : Prop := a ≤ e ∧ e ≤ N ∧ ∀ b, a ≤ b → b < e → ((o.2 0 b = 10 ∨ o.2 0 b = 15) → ∃ f, b < f ∧ f < e ∧ o.2 6 b = nI f) ∧ (o.2 0 b = 16 → ∃ f, a ≤ f ∧ f < b ∧ o.2 6 b = nI f)
theorem qBk.noEnd {o : qO} {N a e : Nat} (h : qBk o N a e) (hl : a < e) : ¬ o.2 0 a = 16 := fun c => by
  obtain ⟨f, h1, h2, _⟩ := (h.2.2 a (Nat.le_refl _) hl).2 c
  omega
section BLK
variable {pl : qP} {o : qO} {N a e : Nat}
theorem act_end (hA : oAct pl o N a) (h : o.2 0 a = 16) : ∃ b, b < a ∧ o.2 6 a = nI b ∧ (o.2 0 b = 10 ∨ o.2 0 b = 15) ∧ o.2 6 b = nI a := by
  unfold oAct at hA
  rw [h] at hA
  rcases hA with ⟨q, _⟩ | ⟨q, _⟩ | q | ⟨q, _⟩ | ⟨q, _⟩ | ⟨_, q⟩
  · rcases q with q | q <;> exact absurd q (by decide)
  · exact absurd q (by decide)
  · exact absurd q (by decide)
  · exact absurd q (by decide)
  · exact absurd q (by decide)
  · exact q
theorem act_open (hA : oAct pl o N a) (h : o.2 0 a = 10 ∨ o.2 0 a = 15) : ∃ e, a < e ∧ e < N ∧ o.2 6 a = nI e ∧ o.2 0 e = 16 ∧ o.2 6 e = nI a := by
  unfold oAct at hA
  rcases hA with ⟨q, _⟩ | ⟨q, _⟩ | q | ⟨q, _, r⟩ | ⟨q, r, _⟩ | ⟨q, _⟩
  · rcases h with h | h <;> rcases q with q | q <;> exact absurd (q.symm.trans h) (by decide)
  · rcases h with h | h <;> exact absurd (q.symm.trans h) (by decide)
  · rcases h with h | h <;> exact absurd (q.symm.trans h) (by decide)
  · exact r
  · exact r
  · rcases h with h | h <;> exact absurd (q.symm.trans h) (by decide)
theorem bk_all (hA : ∀ a, a < N → oAct pl o N a) : qBk o N 0 N := by
  refine ⟨Nat.zero_le _, Nat.le_refl _, fun b _ hb => ⟨fun h => ?_, fun h => ?_⟩⟩
  · obtain ⟨e, h1, h2, h3, _⟩ := act_open (hA b hb) h
    exact ⟨e, h1, h2, h3⟩
  · obtain ⟨f, h1, h2, _⟩ := act_end (hA b hb) h
    exact ⟨f, Nat.zero_le _, h1, h2⟩
/-- an opener: its mate, the block within, the rest behind it -/
theorem bk_open (hN60 : N ≤ 60) (hA : ∀ a, a < N → oAct pl o N a) (hN : oNest o N) (h : qBk o N a e) (hl : a < e) (ho : o.2 0 a = 10 ∨ o.2 0 a = 15) : ∃ m, a < m ∧ m < e ∧ o.2 6 a = nI m ∧ oN o 6 a = m ∧ o.2 0 m = 16 ∧ o.2 6 m = nI a ∧ qBk o N (a + 1) m ∧ qBk o N (m + 1) e := by
  obtain ⟨h1, h2, h3⟩ := h
  obtain ⟨m, m1, m2, m3⟩ := (h3 a (Nat.le_refl _) hl).1 ho
  obtain ⟨m', p1, p2, p3, p4, p5⟩ := act_open (hA a (by omega)) ho
  obtain rfl : m' = m := (nI_eq (by omega) (by omega)).mp (p3.symm.trans m3)
  have nest := hN a m' 
  refine ⟨m', m1, m2, m3, by unfold oN; rw [m3, nI_clamp (by omega)], p4, p5, ⟨by omega, by omega, fun b b1 b2 => ⟨fun q => ?_, fun q => ?_⟩⟩, ⟨by omega, h2, fun b b1 b2 => ⟨fun q => (h3 b (by omega) b2).1 q, fun q => ?_⟩⟩⟩
  · exact (nest b p1 p2 p3 p4 p5 (by omega) b2).1 q
  · obtain ⟨f, f1, f2, f3⟩ := (nest b p1 p2 p3 p4 p5 (by omega) b2).2 q
    exact ⟨f, by omega, f2, f3⟩
  · obtain ⟨f, f1, f2, f3, f4⟩ := act_end (hA b (by omega)) q
    refine ⟨f, ?_, f1, f2⟩
    apply Classical.byContradiction
    intro c
    obtain ⟨g, g1, g2, g3⟩ := (h3 b (by omega) b2).2 q
    obtain rfl : g = f := (nI_eq (by omega) (by omega)).mp (g3.symm.trans f2)
    rcases Nat.lt_or_ge g m' with u | u
    · by_cases v : g = a
      · rw [v] at f4
        have := (nI_eq (by omega) (by omega)).mp (f4.symm.trans p3)
        omega
      · obtain ⟨k, k1, k2, k3⟩ := (nest g p1 p2 p3 p4 p5 (by omega) u).1 f3
        have := (nI_eq (by omega) (by omega)).mp (f4.symm.trans k3)
        omega
    · obtain rfl : g = m' := by omega
      rw [p4] at f3
      rcases f3 with f3 | f3 <;> exact absurd f3 (by decide)
theorem bk_next (hN60 : N ≤ 60) (hA : ∀ a, a < N → oAct pl o N a) (h : qBk o N a e) (hl : a < e) (ho : ¬ (o.2 0 a = 10 ∨ o.2 0 a = 15)) : qBk o N (a + 1) e := by
  obtain ⟨h1, h2, h3⟩ := h
  refine ⟨by omega, h2, fun b b1 b2 => ⟨fun q => (h3 b (by omega) b2).1 q, fun q => ?_⟩⟩
  obtain ⟨f, f1, f2, f3, f4⟩ := act_end (hA b (by omega)) q
  obtain ⟨g, g1, g2, g3⟩ := (h3 b (by omega) b2).2 q
  obtain rfl : g = f := (nI_eq (by omega) (by omega)).mp (g3.symm.trans f2)
  refine ⟨g, ?_, g2, g3⟩
  by_cases v : g = a
  · rw [v] at f3; exact absurd f3 ho
  · omega
end BLK
theorem rOk.inc {s : qR} (h : rOk s) (h4 : rS s < 400) : rOk (qInc s) := ⟨h.1, h.2.1, (show rS s + 1 ≤ 400 by omega), (show rL s ≤ 99 * (rS s + 1) by have := h.2.2.2.1; omega), (show rK s ≤ 99 * (rS s + 1) by have := h.2.2.2.2; omega)⟩
