/-! a plain's text, as both read it -/
abbrev qE (α : Type) : Type := (Int32 × Int32) ⊕ α
def rMap {α β : Type} (r : qE (Nat × α)) (g : α → β) : qE (Nat × β) := match r with
  | .inl e => .inl e
  | .inr p => .inr (p.1, g p.2)
def ySm (f : Nat → Int32) (n a : Nat) : Prop := yK f n a = 4 ∧ yG f n a = 59
def rRow (f : Nat → Int32) (n lo frm : Nat) : Nat → Nat → Nat → (Nat → Nat) → qE (Nat × (Nat → Nat))
  | 0, a, _, g => if yK f n a = 3 then .inl (yF f n a (if lo ≤ yN f n a ∧ yN f n a ≤ 99 then 6 else 4)) else if yK f n a = 4 ∧ yG f n a = 59 then .inr (yX f n a, g) else .inl (yF f n a 2)
  | r + 1, a, cnt, g => if cnt = 0 ∨ yK f n a = 3 then (if yK f n a = 3 then (if lo ≤ yN f n a ∧ yN f n a ≤ 99 then rRow f n lo frm r (yX f n a) (cnt + 1) (tset g (frm + cnt) (yN f n a)) else .inl (yF f n a 4)) else .inl (yF f n a 2)) else if yK f n a = 4 ∧ yG f n a = 59 then .inl (yF f n a 7) else .inl (yF f n a 2)
def pRowSet (pl : qP) (r : Nat) (g : Nat → Nat) : qP := (pl.1, fun i => if i = r then g else pl.2.1 i, pl.2.2)
def pCells (f : Nat → Int32) (n a : Nat) (pl : qP) (r cnt lo : Nat) : qE (Nat × qP) := if qh pl ≤ cnt then .inl (yF f n a 6) else rMap (rRow f n lo (cnt * qw pl) (qw pl) (yX f n a) 0 (pl.2.1 r)) (pRowSet pl r)
def pVilAdd (pl : qP) (nm : Int64) (side : Nat) : qP := (fun k => if k = 2 then qn pl + 1 else pl.1 k, fun i => if i = 3 then tset (pl.2.1 3) (qn pl) side else pl.2.1 i, fun v => if v = qn pl then nm else pl.2.2 v)
def pSkyAdd (pl : qP) (v : Nat) (g : Nat → Nat) : qP := (fun k => if k = 3 then qk pl ||| 2 ^ v else pl.1 k, fun i => if i = 4 + v then g else pl.2.1 i, pl.2.2)
def yNm (f : Nat → Int32) (n a : Nat) : Bool := decide (yK f n a = 2 ∧ yLt f n a ≤ 8 ∧ yI f n a = 26)
def pSees (f : Nat → Int32) (n a : Nat) (pl : qP) (v : Nat) : qE (Nat × qP) := if yI f n a = 5 then rMap (rRow f n 0 0 (qSt pl v) (yX f n a) 0 (pl.2.1 (4 + v))) (pSkyAdd pl v) else if yK f n a = 4 ∧ yG f n a = 59 then .inr (yX f n a, pl) else .inl (yF f n a 2)
def pVill (f : Nat → Int32) (n a : Nat) (pl : qP) : qE (Nat × qP) :=
  if 6 ≤ qn pl then .inl (yF f n a 6) else
  if yNm f n (yX f n a) then (if qNm pl (lN (yV f n (yX f n a))) < qn pl then .inl (yF f n (yX f n a) 3) else
    if 18 ≤ yI f n (yX f n (yX f n a)) ∧ yI f n (yX f n (yX f n a)) < 26 then pSees f n (yX f n (yX f n (yX f n a))) (pVilAdd pl (lN (yV f n (yX f n a))) (yI f n (yX f n (yX f n a)) - 18)) (qn pl)
    else .inl (yF f n (yX f n (yX f n a)) 2)) else .inl (yF f n (yX f n a) 2)
abbrev qPS : Type := qP × Nat × Nat × Nat
def pPart (f : Nat → Int32) (n a : Nat) (st : qPS) : qE (Nat × qPS) :=
  if yI f n a = 1 then rMap (pCells f n a st.1 0 st.2.1 0) (fun p => (p, st.2.1 + 1, st.2.2.1, st.2.2.2)) else
  if yI f n a = 2 then rMap (pCells f n a st.1 1 st.2.2.1 0) (fun p => (p, st.2.1, st.2.2.1 + 1, st.2.2.2)) else
  if yI f n a = 3 then rMap (pCells f n a st.1 2 st.2.2.2 1) (fun p => (p, st.2.1, st.2.2.1, st.2.2.2 + 1)) else
  if yI f n a = 4 then rMap (pVill f n a st.1) (fun p => (p, st.2)) else .inl (yF f n a 2)
def pLoop (f : Nat → Int32) (n : Nat) : Nat → Nat → qPS → qE qP
  | 0, _, st => .inr st.1
  | k + 1, a, st => if yK f n a = 0 then .inr st.1 else match pPart f n a st with
    | .inl e => .inl e
    | .inr p => pLoop f n k p.1 p.2
def tkN (f : Nat → Int32) (n a lo hi : Nat) : qE (Nat × Nat) := if yK f n a = 3 then (if lo ≤ yN f n a ∧ yN f n a ≤ hi then .inr (yX f n a, yN f n a) else .inl (yF f n a 4)) else .inl (yF f n a 2)
def qPlain (f : Nat → Int32) (n : Nat) : qE qP := if yI f n 0 = 0 then (match tkN f n (yX f n 0) 1 5 with
    | .inl e => .inl e
    | .inr p => match tkN f n p.1 1 5 with
      | .inl e => .inl e
      | .inr q => if yK f n q.1 = 4 ∧ yG f n q.1 = 59 then pLoop f n n (yX f n q.1) (qP0 p.2 q.2, 0, 0, 0) else .inl (yF f n q.1 2)) else .inl (yF f n 0 2)
section PRS
variable {f : Nat → Int32} {n : Nat}
theorem rRow_ok {lo frm : Nat} : ∀ r {a cnt : Nat} {g : Nat → Nat} {a' : Nat} {g' : Nat → Nat}, a ≤ n → rRow f n lo frm r a cnt g = .inr (a', g') → a < a' ∧ a' ≤ n ∧ (∀ k, (k < frm + cnt ∨ frm + cnt + r ≤ k) → g' k = g k) ∧ ∀ k, frm + cnt ≤ k → k < frm + cnt + r → lo ≤ g' k ∧ g' k ≤ 99 := by
  intro r
  induction r with
  | zero =>
    intro a cnt g a' g' ha h
    rw [rRow] at h
    split at h
    · cases h
    · split at h
      · rename_i k4
        cases h
        have gt := yX_gt (f := f) (n := n) (a := a) (by rw [k4.1]; decide)
        have := yP_ge (f := f) (n := n) (a := a)
        exact ⟨by omega, yX_le ha, fun _ _ => rfl, fun k h1 h2 => by omega⟩
      · cases h
  | succ r ih =>
    intro a cnt g a' g' ha h
    rw [rRow] at h
    split at h
    · split at h
      · split at h
        · rename_i k3 inr
          have gt := yX_gt (f := f) (n := n) (a := a) (by rw [k3]; decide)
          have := yP_ge (f := f) (n := n) (a := a)
          obtain ⟨h1, h2, h3, h4⟩ := ih (yX_le ha) h
          refine ⟨by omega, h2, fun k hk => ?_, fun k k1 k2 => ?_⟩
          · rw [h3 k (by omega)]
            unfold tset
            rw [if_neg (by omega)]
          · by_cases e : k = frm + cnt
            · rw [h3 k (by omega)]
              unfold tset
              rw [if_pos e]; exact inr
            · exact h4 k (by omega) (by omega)
        · cases h
      · cases h
    · split at h <;> cases h
theorem yK_end {a : Nat} (h : n ≤ a) : yK f n a = 0 := by
  unfold yK
  rw [if_pos (Nat.le_trans h yP_ge)]
/-- what holds of a plain that is being read -/
def pWf (st : qPS) : Prop := qWf st.1 ∧ 1 ≤ qw st.1 ∧ 1 ≤ qh st.1 ∧ st.2.1 ≤ qh st.1 ∧ st.2.2.1 ≤ qh st.1 ∧ st.2.2.2 ≤ qh st.1
theorem pRow_wf {pl : qP} {r : Nat} {g : Nat → Nat} (w : qWf pl) (hr : r < 3) (h : ∀ k, g k ≤ 99) : qWf (pRowSet pl r g) := by
  obtain ⟨w1, w2, w3, w4, w5, w6, w7, w8, w9, w10, w11⟩ := w
  refine ⟨w1, w2, w3, w4, w5, w6, fun c => ?_, fun c => ?_, fun c => ?_, fun v => ?_, fun v s => ?_⟩
  · show (if 0 = r then g else pl.2.1 0) c ≤ 99
    split
    · exact h c
    · exact w7 c
  · show (if 1 = r then g else pl.2.1 1) c ≤ 99
    split
    · exact h c
    · exact w8 c
  · show (if 2 = r then g else pl.2.1 2) c ≤ 99
    split
    · exact h c
    · exact w9 c
  · show (if 3 = r then g else pl.2.1 3) v < 8
    rw [if_neg (by omega)]; exact w10 v
  · show (if 4 + v = r then g else pl.2.1 (4 + v)) s ≤ 99
    rw [if_neg (by omega)]; exact w11 v s
theorem row_le {pl : qP} (w : qWf pl) {r : Nat} (hr : r < 3) : ∀ k, pl.2.1 r k ≤ 99 := by
  rcases (show r = 0 ∨ r = 1 ∨ r = 2 by omega) with rfl | rfl | rfl
  · exact w.2.2.2.2.2.2.1
  · exact w.2.2.2.2.2.2.2.1
  · exact w.2.2.2.2.2.2.2.2.1
theorem pCells_ok {a : Nat} {pl : qP} {r cnt lo : Nat} {a' : Nat} {pl' : qP} (w : qWf pl) (hr : r < 3) (ha : a ≤ n) (h : pCells f n a pl r cnt lo = .inr (a', pl')) : cnt < qh pl ∧ a < a' ∧ a' ≤ n ∧ ∃ g, rRow f n lo (cnt * qw pl) (qw pl) (yX f n a) 0 (pl.2.1 r) = .inr (a', g) ∧ pl' = pRowSet pl r g ∧ qWf pl' := by
  unfold pCells at h
  split at h
  · cases h
  · cases hr' : rRow f n lo (cnt * qw pl) (qw pl) (yX f n a) 0 (pl.2.1 r) with
    | inl e => rw [hr'] at h; cases h
    | inr p =>
      rw [hr'] at h
      cases h
      obtain ⟨h1, h2, h3, h4⟩ := rRow_ok _ (yX_le ha) hr'
      have ge : a ≤ yX f n a := by
        by_cases k0 : yK f n a = 0
        · unfold yX
          unfold yK at k0
          by_cases q : n ≤ yP f n a
          · rw [if_pos q]; exact yP_ge
          · rw [if_neg q] at k0
            exfalso
            revert k0
            split
            · intro u; omega
            · split
              · split <;> intro u <;> omega
              · split <;> intro u <;> omega
        · have := yX_gt (f := f) (n := n) (a := a) k0
          have := yP_ge (f := f) (n := n) (a := a)
          omega
      refine ⟨by omega, by omega, h2, p.2, rfl, rfl, pRow_wf w hr (fun k => ?_)⟩
      by_cases q : k < cnt * qw pl + 0 ∨ cnt * qw pl + 0 + qw pl ≤ k
      · rw [h3 k q]; exact row_le w hr k
      · exact (h4 k (by omega) (by omega)).2
theorem yX_ge {a : Nat} : a ≤ yX f n a := by
  have := yP_ge (f := f) (n := n) (a := a)
  unfold yX
  split
  · exact this
  · split
    · omega
    · split <;> omega
theorem pVilAdd_wf {pl : qP} {nm : Int64} {side : Nat} (w : qWf pl) (w0 : 1 ≤ qw pl) (h6 : qn pl < 6) (hs : side < 8) : qWf (pVilAdd pl nm side) := by
  obtain ⟨w1, w2, w3, w4, w5, w6, w7, w8, w9, w10, w11⟩ := w
  refine ⟨w1, w2, w3, (show qn pl + 1 ≤ 6 by omega), ?_, fun e => ?_, w7, w8, w9, fun v => ?_, fun v s => ?_⟩
  · show qk pl < 2 ^ (qn pl + 1)
    rw [Nat.pow_succ]; omega
  · have : qw pl = 0 := e
    omega
  · show tset (pl.2.1 3) (qn pl) side v < 8
    unfold tset
    split
    · exact hs
    · exact w10 v
  · show (if 4 + v = 3 then tset (pl.2.1 3) (qn pl) side else pl.2.1 (4 + v)) s ≤ 99
    rw [if_neg (by omega)]; exact w11 v s
theorem pSkyAdd_wf {pl : qP} {v : Nat} {g : Nat → Nat} (w : qWf pl) (hv : v < qn pl) (h : ∀ k, g k ≤ 99) : qWf (pSkyAdd pl v g) := by
  obtain ⟨w1, w2, w3, w4, w5, w6, w7, w8, w9, w10, w11⟩ := w
  refine ⟨w1, w2, w3, w4, ?_, w6, fun c => ?_, fun c => ?_, fun c => ?_, fun u => ?_, fun u s => ?_⟩
  · show qk pl ||| 2 ^ v < 2 ^ qn pl
    exact set_lt w5 hv
  · show (if 0 = 4 + v then g else pl.2.1 0) c ≤ 99
    rw [if_neg (by omega)]; exact w7 c
  · show (if 1 = 4 + v then g else pl.2.1 1) c ≤ 99
    rw [if_neg (by omega)]; exact w8 c
  · show (if 2 = 4 + v then g else pl.2.1 2) c ≤ 99
    rw [if_neg (by omega)]; exact w9 c
  · show (if 3 = 4 + v then g else pl.2.1 3) u < 8
    rw [if_neg (by omega)]; exact w10 u
  · show (if 4 + u = 4 + v then g else pl.2.1 (4 + u)) s ≤ 99
    split
    · exact h s
    · exact w11 u s
theorem pSees_ok {a : Nat} {pl : qP} {v : Nat} {a' : Nat} {pl' : qP} (w : qWf pl) (hv : v < qn pl) (ha : a ≤ n) (h : pSees f n a pl v = .inr (a', pl')) : a ≤ a' ∧ a' ≤ n ∧ qWf pl' := by
  unfold pSees at h
  split at h
  · cases hr : rRow f n 0 0 (qSt pl v) (yX f n a) 0 (pl.2.1 (4 + v)) with
    | inl e => rw [hr] at h; cases h
    | inr p =>
      rw [hr] at h
      cases h
      obtain ⟨h1, h2, h3, h4⟩ := rRow_ok _ (yX_le ha) hr
      have := yX_ge (f := f) (n := n) (a := a)
      refine ⟨by omega, h2, pSkyAdd_wf w hv (fun k => ?_)⟩
      by_cases q : k < 0 + 0 ∨ 0 + 0 + qSt pl v ≤ k
      · rw [h3 k q]; exact w.2.2.2.2.2.2.2.2.2.2 v k
      · exact (h4 k (by omega) (by omega)).2
  · split at h
    · cases h; exact ⟨yX_ge, yX_le ha, w⟩
    · cases h
theorem pVill_ok {a : Nat} {pl : qP} {a' : Nat} {pl' : qP} (w : qWf pl) (w0 : 1 ≤ qw pl) (hk : ¬ yK f n a = 0) (ha : a ≤ n) (h : pVill f n a pl = .inr (a', pl')) : a < a' ∧ a' ≤ n ∧ qWf pl' ∧ qw pl' = qw pl ∧ qh pl' = qh pl := by
  unfold pVill at h
  split at h
  · cases h
  · rename_i n6
    split at h
    · split at h
      · cases h
      · split at h
        · rename_i sd
          have w1 := pVilAdd_wf (nm := lN (yV f n (yX f n a))) (side := yI f n (yX f n (yX f n a)) - 18) w w0 (by omega) (by omega)
          have gt := yX_gt (f := f) (n := n) (a := a) hk
          have g1 := yP_ge (f := f) (n := n) (a := a)
          have g2 := yX_ge (f := f) (n := n) (a := yX f n a)
          have g3 := yX_ge (f := f) (n := n) (a := yX f n (yX f n a))
          obtain ⟨h1, h2, h3⟩ := pSees_ok w1 (show qn pl < qn pl + 1 by omega) (yX_le (yX_le (yX_le ha))) h
          refine ⟨by omega, h2, h3, ?_, ?_⟩
          · unfold pSees at h
            split at h
            · cases hr : rRow f n 0 0 (qSt (pVilAdd pl (lN (yV f n (yX f n a))) (yI f n (yX f n (yX f n a)) - 18)) (qn pl)) (yX f n (yX f n (yX f n (yX f n a)))) 0 ((pVilAdd pl (lN (yV f n (yX f n a))) (yI f n (yX f n (yX f n a)) - 18)).2.1 (4 + qn pl)) with
              | inl e => rw [hr] at h; cases h
              | inr p => rw [hr] at h; cases h; rfl
            · split at h
              · cases h; rfl
              · cases h
          · unfold pSees at h
            split at h
            · cases hr : rRow f n 0 0 (qSt (pVilAdd pl (lN (yV f n (yX f n a))) (yI f n (yX f n (yX f n a)) - 18)) (qn pl)) (yX f n (yX f n (yX f n (yX f n a)))) 0 ((pVilAdd pl (lN (yV f n (yX f n a))) (yI f n (yX f n (yX f n a)) - 18)).2.1 (4 + qn pl)) with
              | inl e => rw [hr] at h; cases h
              | inr p => rw [hr] at h; cases h; rfl
            · split at h
              · cases h; rfl
              · cases h
        · cases h
    · cases h
theorem pPart_ok {a : Nat} {st : qPS} {a' : Nat} {st' : qPS} (w : pWf st) (hk : ¬ yK f n a = 0) (ha : a ≤ n) (h : pPart f n a st = .inr (a', st')) : a < a' ∧ a' ≤ n ∧ pWf st' := by
  obtain ⟨w1, w2, w3, w4, w5, w6⟩ := w
  unfold pPart at h
  split at h
  · cases hc : pCells f n a st.1 0 st.2.1 0 with
    | inl e => rw [hc] at h; cases h
    | inr p =>
      rw [hc] at h; cases h
      obtain ⟨c1, c2, c3, g, c4, c5, c6⟩ := pCells_ok w1 (by decide) ha hc
      refine ⟨c2, c3, c6, ?_⟩
      rw [c5]
      exact ⟨w2, w3, c1, w5, w6⟩
  · split at h
    · cases hc : pCells f n a st.1 1 st.2.2.1 0 with
      | inl e => rw [hc] at h; cases h
      | inr p =>
        rw [hc] at h; cases h
        obtain ⟨c1, c2, c3, g, c4, c5, c6⟩ := pCells_ok w1 (by decide) ha hc
        refine ⟨c2, c3, c6, ?_⟩
        rw [c5]
        exact ⟨w2, w3, w4, c1, w6⟩
    · split at h
      · cases hc : pCells f n a st.1 2 st.2.2.2 1 with
        | inl e => rw [hc] at h; cases h
        | inr p =>
          rw [hc] at h; cases h
          obtain ⟨c1, c2, c3, g, c4, c5, c6⟩ := pCells_ok w1 (by decide) ha hc
          refine ⟨c2, c3, c6, ?_⟩
          rw [c5]
          exact ⟨w2, w3, w4, w5, c1⟩
      · split at h
        · cases hc : pVill f n a st.1 with
          | inl e => rw [hc] at h; cases h
          | inr p =>
            rw [hc] at h; cases h
            obtain ⟨c1, c2, c3, c4, c5⟩ := pVill_ok w1 w2 hk ha hc
            refine ⟨c1, c2, c3, ?_⟩
            show 1 ≤ qw p.2 ∧ 1 ≤ qh p.2 ∧ st.2.1 ≤ qh p.2 ∧ st.2.2.1 ≤ qh p.2 ∧ st.2.2.2 ≤ qh p.2
            rw [c4, c5]
            exact ⟨w2, w3, w4, w5, w6⟩
        · cases h
end PRS
