/-! an act of the orders, as the class reads it -/
def oRw (q : Nat) : Prop := q = 25 ∨ (18 ≤ q ∧ q ≤ 24)
def oR (M M' : jM) (j : Nat) : Prop := jsame oRw M M' ∧ (∀ i, i < 7 → ∀ k, k ≠ j → M'.1 (18 + i) k = M.1 (18 + i) k) ∧ ∀ k, (k = 6 ∨ k = 7) → M'.1 25 k = M.1 25 k
def cAc (M : jM) (f : Nat → Int32) (n a j : Nat) (g : Nat → Int32) : Prop := cRt M 25 f n a ∧ ∀ i, i < 7 → M.1 (18 + i) j = g i
def oFt (M M' : jM) (e : Int32 × Int32) : Prop := jsame oRw M M' ∧ M'.1 25 6 = e.1 ∧ M'.1 25 7 = e.2
def oRes (P : jM → Bool → Prop) (M : jM) (f : Nat → Int32) (n j : Nat) (r : qE (Nat × (Nat → Int32))) : Prop := (∀ p, r = .inr p → ∀ M', oR M M' j → cAc M' f n p.1 j p.2 → P M' true) ∧ ∀ e, r = .inl e → ∀ M', oFt M M' e → P M' false
section OAC
variable {x : jX} {d : Nat} {M M' M'' : jM} {f : Nat → Int32} {n a j : Nat} {pl : qP} {g : Nat → Int32} {e : Int32 × Int32}
theorem oR.rf : oR M M j := ⟨jsame.rf, fun _ _ _ _ => rfl, fun _ _ => rfl⟩
theorem oR.tr (h : oR M M' j) (h2 : oR M' M'' j) : oR M M'' j := ⟨h.1.tr h2.1, fun i hi k hk => (h2.2.1 i hi k hk).trans (h.2.1 i hi k hk), fun k hk => (h2.2.2 k hk).trans (h.2.2 k hk)⟩
theorem oR.ft (h : oR M M' j) (h2 : oFt M' M'' e) : oFt M M'' e := ⟨h.1.tr h2.1, h2.2⟩
theorem cFt.o (h : cFt M M' 25 e) : oFt M M' e := ⟨h.1.mono (fun q hq => Or.inl hq), h.2⟩
theorem oR.of (h : jsame (fun r => r = 25) M M') (h2 : ∀ k, (k = 6 ∨ k = 7) → M'.1 25 k = M.1 25 k) : oR M M' j := ⟨h.mono (fun q hq => Or.inl hq), fun i hi k _ => by rw [(h (18 + i) (by omega)).1], h2⟩
theorem rKp.o (h : rKp 25 M M') : oR M M' j := oR.of h.1 (fun k hk => h.2 k (by omega))
theorem oR.put {i : Nat} {v : Int32} (hi : i < 7) : oR M (jrI M (18 + i) (upd (M.1 (18 + i)) j v)) j := by
  refine ⟨jsame.I (Or.inr (by omega)), fun i' hi' k hk => ?_, fun k _ => by rw [jrI_n (by omega)]⟩
  by_cases e : i' = i
  · subst e; rw [jrI_s, pk_un hk]
  · rw [jrI_n (by omega)]
theorem oFt.put {i : Nat} {v : Int32} (hi : i < 7) (h : oFt M M' e) : oFt M (jrI M' (18 + i) (upd (M'.1 (18 + i)) j v)) e := ⟨h.1.tr (jsame.I (Or.inr (by omega))), by rw [jrI_n (by omega)]; exact h.2.1, by rw [jrI_n (by omega)]; exact h.2.2⟩
theorem cAc.put {i : Nat} {v : Int32} (hi : i < 7) (h : cAc M f n a j g) : cAc (jrI M (18 + i) (upd (M.1 (18 + i)) j v)) f n a j (aSet g i v) := by
  refine ⟨h.1.keep (by rw [jrI_n (by omega)]) rfl (by rw [jrI_n (by omega)]) rfl, fun i' hi' => ?_⟩
  unfold aSet
  by_cases e : i' = i
  · subst e; rw [if_pos rfl, jrI_s, pk_us]
  · rw [if_neg e, jrI_n (by omega)]; exact h.2 i' hi'
theorem cAc.step {a' : Nat} (h : cAc M f n a j g) (s : jsame (fun r => r = 25) M M') (r : cRt M' 25 f n a') : cAc M' f n a' j g := ⟨r, fun i hi => by rw [(s (18 + i) (by omega)).1]; exact h.2 i hi⟩
theorem oRes.next {P : jM → Bool → Prop} {α : Type} {r : qE (Nat × α)} {k : Nat → α → qE (Nat × (Nat → Int32))} {p : Nat × α} (h : oRes P M f n j (eB r k)) (hr : r = .inr p) (s : oR M M' j) : oRes P M' f n j (k p.1 p.2) := by
  rw [hr] at h
  exact ⟨fun p' hp' M2 s2 c => h.1 p' hp' M2 (s.tr s2) c, fun e he M2 ft => h.2 e he M2 (s.ft ft)⟩
theorem oRes.fail {P : jM → Bool → Prop} {α : Type} {r : qE (Nat × α)} {k : Nat → α → qE (Nat × (Nat → Int32))} (h : oRes P M f n j (eB r k)) (hr : r = .inl e) (ft : oFt M M' e) : P M' false := by
  rw [hr] at h
  exact h.2 e rfl M' ft
theorem oRes.from {P : jM → Bool → Prop} {r : qE (Nat × (Nat → Int32))} (h : oRes P M f n j r) (s : oR M M' j) : oRes P M' f n j r := ⟨fun p' hp' M2 s2 c => h.1 p' hp' M2 (s.tr s2) c, fun e he M2 ft => h.2 e he M2 (s.ft ft)⟩
theorem cPl.o (h : cPl M 30 pl) (s : jsame oRw M M') : cPl M' 30 pl := h.keep (fun q q1 q2 => (s q (by unfold oRw; omega)).1) (s 34 (by unfold oRw; omega)).2
theorem k_takeC {P : jM → Bool → Prop} {w : Nat} (hw : w ≤ 5) (h0 : cRt M 25 f n a) (h1 : ∀ a' v, tkC f n a w = .inr (a', v) → ∀ M', jsame (fun r => r = 25) M M' → (∀ k, (k = 6 ∨ k = 7) → M'.1 25 k = M.1 25 k) → M'.1 25 5 = nI v → cRt M' 25 f n a' → P M' true) (h2 : ∀ e, tkC f n a w = .inl e → ∀ M', cFt M M' 25 e → P M' false) : JC x jtbC mX7_takeNumber (d + 2) [.ref (x.2.2.2 25), .int (0 : Int32), .int (nI w - 1)] M (jZ P) := by
  unfold tkC at h1 h2
  have z0 : (0 : Int32).toInt = 0 := by decide
  have e1 : (nI w - 1).toInt = (w : Int) - 1 := by rw [← Int32.toInt_toInt64]; exact nI_m1L (by omega)
  refine k_takeNumber h0 (fun k3 r1 r2 M' c1 c2 c3 c4 => ?_) (fun k3 M' c => ?_) (fun k3 nr M' c => ?_)
  · rw [e1] at r2
    rw [if_pos k3, if_pos (by omega)] at h1
    exact h1 _ _ rfl M' c1 c2 c3 c4
  · rw [if_neg k3] at h2
    exact h2 _ rfl M' c
  · rw [z0, e1] at nr
    rw [if_pos k3, if_neg (by omega)] at h2
    exact h2 _ rfl M' c
theorem k_takeCmp {P : jM → Bool → Prop} (h0 : cRt M 25 f n a) (h1 : (yK f n a = 4 ∧ ¬ yG f n a = 59) → ∀ M', jsame (fun r => r = 25) M M' → (∀ k, (k = 6 ∨ k = 7) → M'.1 25 k = M.1 25 k) → M'.1 25 5 = yG f n a → cRt M' 25 f n (yX f n a) → P M' true) (h2 : ¬ (yK f n a = 4 ∧ ¬ yG f n a = 59) → ∀ M', cFt M M' 25 (yF f n a 2) → P M' false) : JC x jtbC mX7_takeCompares (d + 2) [.ref (x.2.2.2 25)] M (jZ P) := by
  have a0 := aX7_at h0.1.2.2.2
  have k4 := yK_le (f := f) (n := n) (a := a)
  obtain ⟨t, r, le⟩ := id h0
  refine b_X7_takeCompares (d := d + 1) a0 ?_
  rw [r.2.2.2.2.1, show (4 : Int32) = nI 4 from rfl, nI_eq (by omega) (by omega)]
  refine ⟨fun c => k_refuse h0 (fun M' g => h2 (fun u => c u.1) M' g), fun c => ?_⟩
  rw [r.2.2.2.2.2.2.2.1 c]
  refine ⟨fun c2 M2 e2 => ?_, fun c2 => k_refuse h0 (fun M' g => h2 (fun u => u.2 c2) M' g)⟩
  have s2 : jsame (fun r => r = 25) M M2 := by rw [e2]; exact jsame.I rfl
  have o : ∀ k, k ≠ 5 → M2.1 25 k = M.1 25 k := fun k hk => by rw [e2, jrI_s, pk_un hk]
  refine k_step (t.keep s2) (by rw [o 9 (by omega)]; exact r.1) (by rw [o 10 (by omega)]; exact r.2.1) (by rw [o 11 (by omega)]; exact r.2.2.1) (yX_le le) (fun M' k1 k2 => h1 ⟨c, c2⟩ M' (s2.tr k1.1) (fun k hk => by rw [k1.2 k (by omega), o k (by omega)]) (by rw [k1.2 5 (by omega), e2, jrI_s, pk_us]) ⟨t.keep (s2.tr k1.1), k2, yX_le le⟩)
theorem k_oNum {P : jM → Bool → Prop} {lo hi : Nat} (hlo : lo < 2 ^ 30) (hhi : hi < 2 ^ 30) (hj : j < 60) (c : cAc M f n a j g) (h : oRes P M f n j (pNum f n a lo hi g)) : JC x jtbC mX4_readNumber (d + 3) [.ref (x.2.2.2 16), .int (nI j), .int (nI lo), .int (nI hi)] M (jZ P) := by
  refine b_X4_readNumber (d := d + 2) (k_takeN hlo hhi c.1 (fun a' v e M1 s1 s2 s3 s4 _ _ => ⟨j, hj, rfl, fun M2 e2 => ?_⟩) (fun e he M1 ft => ⟨j, hj, rfl, fun M2 e2 => ?_⟩))
  · rw [s3] at e2
    refine h.1 (a', aSet g 5 (nI v)) (by unfold pNum; rw [e]; rfl) M2 ?_ ?_
    · rw [e2]; exact (oR.of s1 s2).tr (oR.put (i := 5) (by omega))
    · rw [e2]; exact (c.step s1 s4).put (i := 5) (by omega)
  · refine h.2 e (by unfold pNum; rw [he]; rfl) M2 ?_
    rw [e2]; exact ft.o.put (i := 5) (by omega)
theorem k_oCell {P : jM → Bool → Prop} (hj : j < 60) (hp : cPl M 30 pl) (c : cAc M f n a j g) (h : oRes P M f n j (pCell f n a pl g)) : JC x jtbC mX4_readCell (d + 3) [.ref (x.2.2.2 16), .ref (x.2.2.2 30), .int (nI j)] M (jZ P) := by
  have wf := hp.wf
  refine b_X4_readCell (d := d + 2) ?_
  rw [hp.w]
  refine k_takeC wf.1 c.1 (fun a1 X e1 M1 s1 s2 s3 s4 => ⟨fun _ => ?_, fun u => (by cases u)⟩) (fun e he M1 ft => ⟨fun u => (by cases u), fun _ => h.fail he ft.o⟩)
  have p1 := hp.o (s1.mono (fun q hq => Or.inl hq))
  have h1 := h.next e1 (oR.of s1 s2)
  have c1 := c.step s1 s4
  rw [p1.h]
  refine k_takeC wf.2.1 c1.1 (fun a2 Y e2 M2 t1 t2 t3 t4 => ⟨fun _ => ⟨j, hj, rfl, fun M3 e3 => ?_⟩, fun u => (by cases u)⟩) (fun e he M2 ft => ⟨fun u => (by cases u), fun _ => h1.2 e (by rw [he]; rfl) M2 ft.o⟩)
  have p2 := p1.o (t1.mono (fun q hq => Or.inl hq))
  rw [t3, p2.w, s3, pk_mul, nI_add] at e3
  refine h1.1 (a2, aSet g 2 (nI (Y * qw pl + X))) (by rw [e2]; rfl) M3 ?_ ?_
  · rw [e3]; exact (oR.of t1 t2).tr (oR.put (i := 2) (by omega))
  · rw [e3]; exact (c1.step t1 t4).put (i := 2) (by omega)
theorem k_oBy {P : jM → Bool → Prop} (hj : j < 60) (c : cAc M f n a j g) (h : oRes P M f n j (pBy f n a g)) : JC x jtbC mX4_readBy (d + 4) [.ref (x.2.2.2 16), .int (nI j)] M (jZ P) := by
  have il := yI_le (f := f) (n := n) (a := a)
  unfold pBy at h
  refine b_X4_readBy (d := d + 3) ⟨j, hj, rfl, fun M1 e1 => ?_⟩
  have c1 : cAc M1 f n a j (aSet g 5 1) := by rw [e1]; exact c.put (i := 5) (by omega)
  have r1 : oR M M1 j := by rw [e1]; exact oR.put (i := 5) (by omega)
  have key : M1.1 25 3 = (8 : Int32) ↔ yI f n a = 8 := by rw [c1.1.2.1.2.2.2.2.2.1]; exact yWx_eq (k := 8) il (by decide)
  rw [key]
  refine ⟨fun y => k_stepOn c1.1 (fun M2 k2 t2 => ?_), fun y => ?_⟩
  · rw [if_pos y] at h
    exact k_oNum (lo := 1) (hi := 99) (by omega) (by omega) hj (c1.step k2.1 t2) (h.from (r1.tr k2.o))
  · rw [if_neg y] at h
    exact h.1 _ rfl M1 r1 c1
theorem k_oName {P : jM → Bool → Prop} (hj : j < 60) (hp : cPl M 30 pl) (c : cAc M f n a j g) (h : oRes P M f n j (pName f n a pl g)) : JC x jtbC mX4_readName (d + 2) [.ref (x.2.2.2 16), .ref (x.2.2.2 30), .int (nI j)] M (jZ P) := by
  have six := hp.wf.2.2.2.1
  unfold pName at h
  refine b_X4_readName (d := d + 1) (k_isName c.1 ⟨fun y => ?_, fun y => ?_⟩)
  · rw [if_pos y] at h
    obtain ⟨y2, y8, y26⟩ := of_decide_eq_true (show decide (yK f n a = 2 ∧ yLt f n a ≤ 8 ∧ yI f n a = 26) = true from y)
    rw [(c.1.2.1.2.2.2.2.2.2.2.2 y2).1]
    refine k_villageNamed atC5_30 hp ⟨j, hj, rfl, fun M3 e3 => ?_⟩
    have v3 : M3.1 20 j = if qNm pl (lN (yV f n a)) < qn pl then nI (qNm pl (lN (yV f n a))) else -1 := by rw [e3, jrI_s, pk_us]
    have r3 : oR M M3 j := by rw [e3]; exact oR.put (i := 2) (by omega)
    rw [v3]
    by_cases q : qNm pl (lN (yV f n a)) < qn pl
    · rw [if_pos q] at h ⊢ e3
      have c3 : cAc M3 f n a j (aSet g 2 (nI (qNm pl (lN (yV f n a))))) := by rw [e3]; exact c.put (i := 2) (by omega)
      exact ⟨fun _ => k_stepOn c3.1 (fun M4 k4 t4 => h.1 _ rfl M4 (r3.tr k4.o) (c3.step k4.1 t4)), fun u => absurd u (nI_ne1 (by omega))⟩
    · rw [if_neg q] at h ⊢ e3
      have c3 : cAc M3 f n a j (aSet g 2 (-1)) := by rw [e3]; exact c.put (i := 2) (by omega)
      exact ⟨fun u => absurd rfl u, fun _ => k_refuse c3.1 (fun M4 ft => h.2 _ rfl M4 (r3.ft ft.o))⟩
  · rw [if_neg (by rw [y]; decide)] at h
    exact k_refuse c.1 (fun M4 ft => h.2 _ rfl M4 ft.o)
theorem k_oAt {P : jM → Bool → Prop} (hj : j < 60) (c : cAc M f n a j g) (h : oRes P M f n j (pAt f n a g)) : JC x jtbC mX4_readStrip (d + 3) [.ref (x.2.2.2 16), .int (nI j)] M (jZ P) := by
  unfold pAt at h
  refine b_X4_readStrip (d := d + 2) (k_takeWord (w := 12) (by omega) c.1 (fun y M1 k1 t1 => ⟨fun u => (by cases u), fun _ => ?_⟩) (fun y M1 ft => ⟨fun _ => b_X4_readStrip_30 ⟨j, hj, rfl, fun M2 e2 => ⟨false, rfl, ?_⟩⟩, fun u => (by cases u)⟩))
  · rw [if_pos y] at h
    have c1 := c.step k1.1 t1
    refine k_takeN (lo := 0) (hi := 8) (by omega) (by omega) c1.1 (fun a2 v e2 M2 s1 s2 s3 s4 _ _ => ⟨fun u => (by cases u), fun _ => b_X4_readStrip_30 ⟨j, hj, rfl, fun M3 e3 => ⟨true, rfl, ?_⟩⟩⟩) (fun e he M2 ft => ⟨fun _ => b_X4_readStrip_30 ⟨j, hj, rfl, fun M3 e3 => ⟨false, rfl, ?_⟩⟩, fun u => (by cases u)⟩)
    · rw [s3] at e3
      refine h.1 (a2, aSet g 3 (nI v)) (by rw [e2]; rfl) M3 ?_ ?_
      · rw [e3]; exact (k1.o.tr (oR.of s1 s2)).tr (oR.put (i := 3) (by omega))
      · rw [e3]; exact (c1.step s1 s4).put (i := 3) (by omega)
    · refine h.2 e (by rw [he]; rfl) M3 ?_
      rw [e3]; exact ((k1.o (j := j)).ft ft.o).put (i := 3) (by omega)
  · rw [if_neg y] at h
    refine h.2 _ rfl M2 ?_
    rw [e2]; exact ft.o.put (i := 3) (by omega)
theorem k_oCmp {P : jM → Bool → Prop} (hj : j < 60) (c : cAc M f n a j g) (h : oRes P M f n j (pCmp f n a g)) : JC x jtbC mX4_readCompares (d + 3) [.ref (x.2.2.2 16), .int (nI j)] M (jZ P) := by
  unfold pCmp at h
  refine b_X4_readCompares (d := d + 2) (k_takeCmp c.1 (fun y M1 s1 s2 s3 s4 => ⟨j, hj, rfl, fun M2 e2 => ?_⟩) (fun y M1 ft => ⟨j, hj, rfl, fun M2 e2 => ?_⟩))
  · rw [if_pos y] at h
    rw [s3] at e2
    refine h.1 _ rfl M2 ?_ ?_
    · rw [e2]; exact (oR.of s1 s2).tr (oR.put (i := 4) (by omega))
    · rw [e2]; exact (c.step s1 s4).put (i := 4) (by omega)
  · rw [if_neg y] at h
    refine h.2 _ rfl M2 ?_
    rw [e2]; exact ft.o.put (i := 4) (by omega)
end OAC
