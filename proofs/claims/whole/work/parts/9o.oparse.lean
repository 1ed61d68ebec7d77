/-! a building orders' text, as both read it -/
def eB {α β : Type} (r : qE (Nat × α)) (k : Nat → α → qE β) : qE β := match r with
  | .inl e => .inl e
  | .inr p => k p.1 p.2
def aSet (g : Nat → Int32) (k : Nat) (v : Int32) : Nat → Int32 := fun j => if j = k then v else g j
def tkC (f : Nat → Int32) (n a w : Nat) : qE (Nat × Nat) := if yK f n a = 3 then (if yN f n a < w then .inr (yX f n a, yN f n a) else .inl (yF f n a 4)) else .inl (yF f n a 2)
def pNum (f : Nat → Int32) (n a lo hi : Nat) (g : Nat → Int32) : qE (Nat × (Nat → Int32)) := rMap (tkN f n a lo hi) (fun v => aSet g 5 (nI v))
def pCell (f : Nat → Int32) (n a : Nat) (pl : qP) (g : Nat → Int32) : qE (Nat × (Nat → Int32)) := eB (tkC f n a (qw pl)) (fun a1 X => rMap (tkC f n a1 (qh pl)) (fun Y => aSet g 2 (nI (Y * qw pl + X))))
def pBy (f : Nat → Int32) (n a : Nat) (g : Nat → Int32) : qE (Nat × (Nat → Int32)) := if yI f n a = 8 then pNum f n (yX f n a) 1 99 (aSet g 5 1) else .inr (a, aSet g 5 1)
def pName (f : Nat → Int32) (n a : Nat) (pl : qP) (g : Nat → Int32) : qE (Nat × (Nat → Int32)) := if yNm f n a = true then (if qNm pl (lN (yV f n a)) < qn pl then .inr (yX f n a, aSet g 2 (nI (qNm pl (lN (yV f n a))))) else .inl (yF f n a 3)) else .inl (yF f n a 2)
def pAt (f : Nat → Int32) (n a : Nat) (g : Nat → Int32) : qE (Nat × (Nat → Int32)) := if yI f n a = 12 then rMap (tkN f n (yX f n a) 0 8) (fun v => aSet g 3 (nI v)) else .inl (yF f n a 2)
def pCmp (f : Nat → Int32) (n a : Nat) (g : Nat → Int32) : qE (Nat × (Nat → Int32)) := if yK f n a = 4 ∧ ¬ yG f n a = 59 then .inr (yX f n a, aSet g 4 (yG f n a)) else .inl (yF f n a 2)
def pTest (f : Nat → Int32) (n a : Nat) (pl : qP) (g : Nat → Int32) : qE (Nat × (Nat → Int32)) :=
  if yI f n a = 11 then eB (pCell f n (yX f n a) pl (aSet g 1 11)) (fun a1 g1 => eB (pCmp f n a1 g1) (fun a2 g2 => pNum f n a2 0 99 g2)) else
  if yI f n a = 5 then eB (pName f n (yX f n a) pl (aSet g 1 5)) (fun a1 g1 => eB (pAt f n a1 g1) (fun a2 g2 => eB (pCmp f n a2 g2) (fun a3 g3 => pNum f n a3 0 99 g3))) else
  if yI f n a = 13 then pName f n (yX f n a) pl (aSet g 1 13) else
  if yI f n a = 14 then eB (pCmp f n (yX f n a) (aSet g 1 14)) (fun a1 g1 => pNum f n a1 0 9999 g1) else .inl (yF f n a 2)
def pRest (f : Nat → Int32) (n a : Nat) (pl : qP) (k : Nat) (g : Nat → Int32) : qE (Nat × (Nat → Int32)) :=
  if k = 6 ∨ k = 7 then eB (pCell f n a pl g) (fun a1 g1 => pBy f n a1 g1) else
  if k = 9 ∨ k = 15 then pNum f n a 1 99 g else if k = 10 then pTest f n a pl g else .inr (a, g)
def tkS {α : Type} (f : Nat → Int32) (n a : Nat) (v : α) : qE (Nat × α) := if yK f n a = 4 ∧ yG f n a = 59 then .inr (yX f n a, v) else .inl (yF f n a 2)
/-- depth, the open blocks, steps, acts, the acts' rows -/
abbrev qOS : Type := Nat × (Nat → Nat) × Nat × Nat × (Nat → Nat → Int32)
def oPut (o : Nat → Nat → Int32) (r j : Nat) (v : Int32) : Nat → Nat → Int32 := fun r' j' => if r' = r ∧ j' = j then v else o r' j'
def oCol (o : Nat → Nat → Int32) (j : Nat) (g : Nat → Int32) : Nat → Nat → Int32 := fun r j' => if j' = j then g r else o r j'
def oEnd (st : qOS) : qOS := (st.1 - 1, st.2.1, st.2.2.1, st.2.2.2.1 + 1, oPut (oPut (oPut st.2.2.2.2 0 st.2.2.2.1 16) 6 st.2.2.2.1 (nI (st.2.1 (st.1 - 1)))) 6 (st.2.1 (st.1 - 1)) (nI st.2.2.2.1))
def oOpen (st : qOS) (k : Nat) (g : Nat → Int32) : qOS := (if k = 10 ∨ k = 15 then st.1 + 1 else st.1, if k = 10 ∨ k = 15 then tset st.2.1 st.1 st.2.2.2.1 else st.2.1, st.2.2.1 + 1, st.2.2.2.1 + 1, oCol st.2.2.2.2 st.2.2.2.1 g)
def oKind (k : Nat) : Prop := k = 6 ∨ k = 7 ∨ k = 9 ∨ k = 10 ∨ k = 15 ∨ k = 17
def oStep (f : Nat → Int32) (n a : Nat) (pl : qP) (st : qOS) : qE (Nat × qOS) :=
  if yI f n a = 16 then (if st.1 = 0 then .inl (yF f n a 2) else tkS f n (yX f n a) (oEnd st)) else
  if yI f n a = 6 ∨ yI f n a = 7 ∨ yI f n a = 9 ∨ yI f n a = 10 ∨ yI f n a = 15 ∨ yI f n a = 17 then
    (if 30 ≤ st.2.2.1 then .inl (yF f n a 6) else if (yI f n a = 10 ∨ yI f n a = 15) ∧ 3 ≤ st.1 then .inl (yF f n a 7) else
      eB (pRest f n (yX f n a) pl (yI f n a) (aSet (fun r => st.2.2.2.2 r st.2.2.2.1) 0 (nI (yI f n a)))) (fun a1 g => tkS f n a1 (oOpen st (yI f n a) g)))
  else .inl (yF f n a 2)
def oLoop (f : Nat → Int32) (n : Nat) (pl : qP) : Nat → Nat → qOS → qE qOS
  | 0, a, st => if st.1 = 0 then .inr st else .inl (yF f n a 2)
  | k + 1, a, st => if yK f n a = 0 then (if st.1 = 0 then .inr st else .inl (yF f n a 2)) else match oStep f n a pl st with
    | .inl e => .inl e
    | .inr p => oLoop f n pl k p.1 p.2
def qOrd (f : Nat → Int32) (n : Nat) (pl : qP) (g0 : Nat → Nat → Int32) : qE qOS := oLoop f n pl n 0 (0, fun _ => 0, 0, 0, g0)
def oMk (st : qOS) : qO := (fun k => if k = 0 then 1 else if k = 1 then nI st.2.2.1 else nI st.2.2.2.1, st.2.2.2.2)
def sOrders (z : qZ) (a : Int32) (g0 : Nat → Nat → Int32) : qZ × Int32 := if decide (0 ≤ a.toInt ∧ a.toInt ≤ (zTp z).1 ∧ a.toInt ≤ 300) then (match qOrd (zTp z).2 a.toNatClampNeg (zP z) g0 with
    | .inl e => rf (uFa (uTp z (0, (zTp z).2)) e) 10
    | .inr st => (uSt (uNw (uFa (uTp z (0, (zTp z).2)) (0, -1)) (zP z, zT z, oMk st)) 0, nI st.2.2.1)) else rf z 5
/-- what holds of acts that are being read: the places of open blocks -/
def oInv (st : qOS) : Prop := st.1 ≤ 3 ∧ st.2.2.1 ≤ 30 ∧ st.2.2.2.1 + st.1 ≤ 2 * st.2.2.1 ∧ ∀ i, i < st.1 → st.2.1 i < st.2.2.2.1
section OPP
variable {f : Nat → Int32} {n : Nat} {pl : qP}
theorem tkN_ok {a lo hi a' v : Nat} (ha : a ≤ n) (h : tkN f n a lo hi = .inr (a', v)) : a < a' ∧ a' ≤ n ∧ lo ≤ v ∧ v ≤ hi := by
  unfold tkN at h
  split at h
  · rename_i k3
    split at h
    · rename_i u
      cases h
      have := yX_gt (f := f) (n := n) (a := a) (by omega)
      have := yP_ge (f := f) (n := n) (a := a)
      exact ⟨by omega, yX_le ha, u.1, u.2⟩
    · cases h
  · cases h
theorem tkC_ok {a w a' v : Nat} (ha : a ≤ n) (h : tkC f n a w = .inr (a', v)) : a < a' ∧ a' ≤ n ∧ v < w := by
  unfold tkC at h
  split at h
  · rename_i k3
    split at h
    · rename_i u
      cases h
      have := yX_gt (f := f) (n := n) (a := a) (by omega)
      have := yP_ge (f := f) (n := n) (a := a)
      exact ⟨by omega, yX_le ha, u⟩
    · cases h
  · cases h
theorem rMap_ok {α β : Type} {r : qE (Nat × α)} {g : α → β} {p : Nat × β} (h : rMap r g = .inr p) : ∃ v, r = .inr (p.1, v) ∧ p.2 = g v := by
  cases r with
  | inl e => cases h
  | inr q => cases h; exact ⟨q.2, rfl, rfl⟩
theorem eB_ok {α β : Type} {r : qE (Nat × α)} {k : Nat → α → qE β} {p : β} (h : eB r k = .inr p) : ∃ a v, r = .inr (a, v) ∧ k a v = .inr p := by
  cases r with
  | inl e => cases h
  | inr q => exact ⟨q.1, q.2, rfl, h⟩
/-- places of the text that a parser reaches -/
def pGo (n : Nat) (a : Nat) (r : qE (Nat × (Nat → Int32))) : Prop := ∀ p, r = .inr p → a ≤ p.1 ∧ p.1 ≤ n
theorem pNum_go {a lo hi : Nat} {g : Nat → Int32} (ha : a ≤ n) : pGo n a (pNum f n a lo hi g) := fun p h => by
  obtain ⟨v, h1, h2⟩ := rMap_ok h
  obtain ⟨o1, o2, -⟩ := tkN_ok ha h1
  exact ⟨by omega, o2⟩
theorem pCell_go {a : Nat} {g : Nat → Int32} (ha : a ≤ n) : pGo n a (pCell f n a pl g) := fun p h => by
  obtain ⟨a1, v, h1, h2⟩ := eB_ok h
  obtain ⟨o1, o2, o3⟩ := tkC_ok ha h1
  obtain ⟨w, h3, h4⟩ := rMap_ok h2
  obtain ⟨o4, o5, o6⟩ := tkC_ok o2 h3
  exact ⟨by omega, o5⟩
theorem pBy_go {a : Nat} {g : Nat → Int32} (ha : a ≤ n) : pGo n a (pBy f n a g) := fun p h => by
  unfold pBy at h
  have := yX_ge (f := f) (n := n) (a := a)
  split at h
  · obtain ⟨o1, o2⟩ := pNum_go (yX_le ha) p h
    exact ⟨by omega, o2⟩
  · cases h; exact ⟨Nat.le_refl _, ha⟩
theorem pName_go {a : Nat} {g : Nat → Int32} (ha : a ≤ n) : pGo n a (pName f n a pl g) := fun p h => by
  unfold pName at h
  split at h
  · split at h
    · cases h; exact ⟨yX_ge, yX_le ha⟩
    · cases h
  · cases h
theorem pAt_go {a : Nat} {g : Nat → Int32} (ha : a ≤ n) : pGo n a (pAt f n a g) := fun p h => by
  unfold pAt at h
  have := yX_ge (f := f) (n := n) (a := a)
  split at h
  · obtain ⟨v, h1, h2⟩ := rMap_ok h
    obtain ⟨o1, o2, -⟩ := tkN_ok (yX_le ha) h1
    exact ⟨by omega, o2⟩
  · cases h
theorem pCmp_go {a : Nat} {g : Nat → Int32} (ha : a ≤ n) : pGo n a (pCmp f n a g) := fun p h => by
  unfold pCmp at h
  split at h
  · cases h; exact ⟨yX_ge, yX_le ha⟩
  · cases h
theorem eB_go {a : Nat} {r : qE (Nat × (Nat → Int32))} {k : Nat → (Nat → Int32) → qE (Nat × (Nat → Int32))} (h1 : pGo n a r) (h2 : ∀ b g, b ≤ n → pGo n b (k b g)) : pGo n a (eB r k) := fun p h => by
  obtain ⟨b, v, e1, e2⟩ := eB_ok h
  obtain ⟨o1, o2⟩ := h1 _ e1
  obtain ⟨o3, o4⟩ := h2 b v o2 p e2
  have : a ≤ b := o1
  exact ⟨by omega, o4⟩
theorem pGo.le {a b : Nat} {r : qE (Nat × (Nat → Int32))} (h : pGo n b r) (hab : a ≤ b) : pGo n a r := fun p hp => ⟨Nat.le_trans hab (h p hp).1, (h p hp).2⟩
theorem pTest_go {a : Nat} {g : Nat → Int32} (ha : a ≤ n) : pGo n a (pTest f n a pl g) := by
  have hx := yX_le (f := f) ha
  have hg := yX_ge (f := f) (n := n) (a := a)
  unfold pTest
  split
  · exact (eB_go (pCell_go hx) (fun b g hb => eB_go (pCmp_go hb) (fun b g hb => pNum_go hb))).le hg
  · split
    · exact (eB_go (pName_go hx) (fun b g hb => eB_go (pAt_go hb) (fun b g hb => eB_go (pCmp_go hb) (fun b g hb => pNum_go hb)))).le hg
    · split
      · exact (pName_go hx).le hg
      · split
        · exact (eB_go (pCmp_go hx) (fun b g hb => pNum_go hb)).le hg
        · intro p h; cases h
theorem pRest_go {a k : Nat} {g : Nat → Int32} (ha : a ≤ n) : pGo n a (pRest f n a pl k g) := by
  unfold pRest
  split
  · exact eB_go (pCell_go ha) (fun b g hb => pBy_go hb)
  · split
    · exact pNum_go ha
    · split
      · exact pTest_go ha
      · intro p h; cases h; exact ⟨Nat.le_refl _, ha⟩
theorem tkS_ok {α : Type} {a a' : Nat} {v w : α} (ha : a ≤ n) (h : tkS f n a v = .inr (a', w)) : a < a' ∧ a' ≤ n ∧ w = v := by
  unfold tkS at h
  split at h
  · rename_i k4
    cases h
    have := yX_gt (f := f) (n := n) (a := a) (by omega)
    have := yP_ge (f := f) (n := n) (a := a)
    exact ⟨by omega, yX_le ha, rfl⟩
  · cases h
theorem oStep_ok {a a' : Nat} {st st' : qOS} (ha : a ≤ n) (w : oInv st) (h : oStep f n a pl st = .inr (a', st')) : a < a' ∧ a' ≤ n ∧ oInv st' := by
  have hx := yX_le (f := f) ha
  have hg := yX_ge (f := f) (n := n) (a := a)
  obtain ⟨w1, w2, w3, w4⟩ := w
  unfold oStep at h
  split at h
  · split at h
    · cases h
    · rename_i d0
      obtain ⟨o1, o2, rfl⟩ := tkS_ok hx h
      refine ⟨by omega, o2, ?_, w2, ?_, fun i hi => ?_⟩
      · show st.1 - 1 ≤ 3
        omega
      · show st.2.2.2.1 + 1 + (st.1 - 1) ≤ 2 * st.2.2.1
        omega
      · have hi' : i < st.1 - 1 := hi
        have := w4 i (by omega)
        show st.2.1 i < st.2.2.2.1 + 1
        omega
  · split at h
    · split at h
      · cases h
      · rename_i s30
        split at h
        · cases h
        · rename_i nd
          obtain ⟨b, g, e1, e2⟩ := eB_ok h
          obtain ⟨o1, o2⟩ := pRest_go hx _ e1
          obtain ⟨o3, o4, rfl⟩ := tkS_ok o2 e2
          have o1' : yX f n a ≤ b := o1
          refine ⟨by omega, o4, ?_⟩
          unfold oOpen oInv
          dsimp only
          by_cases bl : yI f n a = 10 ∨ yI f n a = 15
          · rw [if_pos bl, if_pos bl]
            refine ⟨by omega, by omega, by omega, fun i hi => ?_⟩
            unfold tset
            split
            · omega
            · have := w4 i (by omega)
              omega
          · rw [if_neg bl, if_neg bl]
            exact ⟨w1, by omega, by omega, fun i hi => Nat.lt_succ_of_lt (w4 i hi)⟩
    · cases h
end OPP
