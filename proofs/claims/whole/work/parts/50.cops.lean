/-! what the operations answer; the class -/
def uTn (z : qZ) (f : Nat → Nat) : qZ := uNw z ((zNw z).1, f, (zNw z).2.2)
def tset (f : Nat → Nat) (k v : Nat) : Nat → Nat := fun j => if j = k then v else f j
theorem cI.setNw {M M' : jM} {z : qZ} {w : qW} (h : cI M z) (hs : jsame (fun q => 29 < q ∧ q < 48) M M') (hw : cWd M' 29 w) (ok : oOk w.1 w.2.2) : cI M' (uNw z w) := by
  obtain ⟨a1, a2, a3, a4, a5, a6, a7, a8, a9, a10, a11, a12, a13, a14, a15, a16⟩ := h
  obtain ⟨k1, k2, k3, k4, k5, k6, k7⟩ := id a16
  have r : ∀ q, ¬ (29 < q ∧ q < 48) → M'.1 q = M.1 q ∧ M'.2 q = M.2 q := hs
  refine ⟨by rw [(r 0 (by omega)).1]; exact a1, by rw [(r 75 (by omega)).2]; exact a2, by rw [(r 75 (by omega)).2]; exact a3, fun t ht => (a4 t ht).keep (r _ (by omega)).1 (r _ (by omega)).2, by rw [(r 0 (by omega)).1]; exact a5, fun k hk => by rw [(r 2 (by omega)).1]; exact a6 k hk, by rw [(r 76 (by omega)).1]; exact a7, by rw [(r 76 (by omega)).1]; exact a8, hw, by rw [(r 0 (by omega)).1]; exact a10, fun m hm => (a11 m hm).keep (fun q q1 q2 q3 => (r q (by omega)).1) (r _ (by omega)).2, by rw [(r 62 (by omega)).1]; exact a12, fun k hk => by rw [(r 65 (by omega)).1]; exact a13 k hk, fun k hk => by rw [(r 74 (by omega)).1]; exact a14 k hk, fun k hk => by rw [(r 14 (by omega)).2, (r 26 (by omega)).2]; exact a15 k hk, ⟨k1, k2, ok, k4, k5, k6, k7⟩⟩
theorem cI.setTn {M M' : jM} {z : qZ} {f : Nat → Nat} (h : cI M z) (hs : jsame (fun q => q = 39) M M') (hf : ∀ c, c < 25 → M'.1 39 c = nI (f c)) (hb : ∀ c, f c ≤ 99) : cI M' (uTn z f) := by
  have w := h.nw
  refine h.setNw (hs.mono (fun q hq => by omega)) ⟨w.1.keep (fun q q1 q2 => (hs q (by omega)).1) (by rw [(hs _ (by omega)).2]), hf, hb, w.2.2.2.keep (fun q q1 q2 => (hs q (by omega)).1)⟩ h.ok.2.2.1
theorem cI.tw {M : jM} {z : qZ} (h : cI M z) : ∀ c, c < 25 → M.1 39 c = nI (zT z c) := h.nw.2.1
theorem cI.t9 {M : jM} {z : qZ} (h : cI M z) : ∀ c, zT z c ≤ 99 := h.nw.2.2.1
def sFault (z : qZ) (a : Int32) : Int32 := if a = 0 then (zFa z).1 else if a = 1 then (zFa z).2 else -1
def sMany (z : qZ) (a : Int32) : qZ × Int32 := if a = 0 then an z (nI (qw (zP z))) else if a = 1 then an z (nI (qh (zP z))) else if a = 2 then an z (nI (qn (zP z))) else rf z 5
def sCell (z : qZ) (a b : Int32) : qZ × Int32 := if qin a (qc (zP z)) then (if b = 0 then an z (nI (qMost (zP z) a.toNatClampNeg)) else if b = 1 then an z (nI (qLeast (zP z) a.toNatClampNeg)) else if b = 2 then an z (nI (qPrice (zP z) a.toNatClampNeg)) else rf z 5) else rf z 2
def sVillage (z : qZ) (a b : Int32) : qZ × Int32 := if qin a (qn (zP z)) then (if b = 0 then an z (nI (qSide (zP z) a.toNatClampNeg)) else if b = 1 then an z (nI (qSt (zP z) a.toNatClampNeg)) else if b = 2 then an z (jb ((qk (zP z)).testBit a.toNatClampNeg)) else rf z 5) else rf z 2
def sPromised (z : qZ) (a b : Int32) : qZ × Int32 := if qin a (qn (zP z)) && qin b (qSt (zP z) a.toNatClampNeg) then (if (qk (zP z)).testBit a.toNatClampNeg then an z (nI (qLine (zP z) a.toNatClampNeg b.toNatClampNeg)) else rf z 8) else rf z 2
def sStrip (z : qZ) (a b : Int32) : qZ × Int32 := if qin a 8 && qin b (qc (zP z)) then an z (nI (qF (qw (zP z)) (qh (zP z)) a.toNatClampNeg b.toNatClampNeg)) else rf z 2
def sHeight (z : qZ) (a : Int32) : qZ × Int32 := if qin a (qc (zP z)) then an z (nI (zT z a.toNatClampNeg)) else rf z 2
def sBuild (z : qZ) (a b : Int32) : qZ × Bool := if qin a (qc (zP z)) then (if qin b 100 then (uSt (uTn z (tset (zT z) a.toNatClampNeg b.toNatClampNeg)) 0, true) else rb z 5) else rb z 2
def sSeen (z : qZ) (a b : Int32) : qZ × Int32 := if qin a (qn (zP z)) && qin b (qSt (zP z) a.toNatClampNeg) then an z (nI (qG (qw (zP z)) (qh (zP z)) (qSide (zP z) a.toNatClampNeg) b.toNatClampNeg (zT z) (qc (zP z)))) else rf z 2
def sOtherwise (z : qZ) (a : Int32) : qZ × Int32 := if qin a 2 then (if qUv (zP z) (zT z) < qn (zP z) then (if a = 0 then an z (nI (qUv (zP z) (zT z))) else an z (nI (qUs (zP z) (zT z) (qUv (zP z) (zT z))))) else rf z 8) else rf z 5
def sStone (z : qZ) : qZ × Int32 := an z (nI (qStone (zP z) (zT z) (qc (zP z))))
/-- the caps by the promises of a set, and whether they can be kept -/
def pAsk (pl : qP) (set : Nat) : Nat := set &&& qk pl
def pCp (pl : qP) (set : Nat) : Nat → Nat := qCp pl (pAsk pl set) (qLine pl)
def pCan (pl : qP) (set : Nat) : Bool := qCan pl (pAsk pl set) (qLine pl) (pCp pl set)
def sCap (z : qZ) (a b : Int32) : qZ × Int32 := if qin a (qc (zP z)) && qin b (2 ^ qn (zP z)) then an z (nI (pCp (zP z) b.toNatClampNeg a.toNatClampNeg)) else rf z 2
def sCan (z : qZ) (a : Int32) : qZ × Int32 := if qin a (2 ^ qn (zP z)) then an z (jb (pCan (zP z) a.toNatClampNeg)) else rf z 2
def sBarred (z : qZ) (a b : Int32) : qZ × Int32 := if qin a (2 ^ qn (zP z)) then (if qin b 3 then (if pCan (zP z) a.toNatClampNeg then rf z 8 else an z (qBar (zP z) (pAsk (zP z) a.toNatClampNeg) (qLine (zP z)) (pCp (zP z) a.toNatClampNeg) b.toNatClampNeg)) else rf z 5) else rf z 2
/-- a town of which the first cells are others -/
def tcpy (f g : Nat → Nat) (n : Nat) : Nat → Nat := fun k => if k < n then f k else g k
def sLargest (z : qZ) (a : Int32) : qZ × Int32 := if qin a (2 ^ qn (zP z)) then (if pCan (zP z) a.toNatClampNeg then (uSt (uTn z (tcpy (pCp (zP z) a.toNatClampNeg) (zT z) (qc (zP z)))) 0, nI (qStone (zP z) (pCp (zP z) a.toNatClampNeg) (qc (zP z)))) else rf z 9) else rf z 2
def sOrderAt (z : qZ) (a : Int32) : qZ × Int32 := if qin a (zOr z).1 then an z (nI ((zOr z).2 a.toNatClampNeg)) else rf z 8
def sBuilding (z : qZ) (a : Int32) : qZ × Int32 := if qin a 3 then (if zBl z a.toNatClampNeg = -1 then rf z 8 else an z (zBl z a.toNatClampNeg)) else rf z 5
def mkset (f : Nat → qW) (k : Nat) (w : qW) : Nat → qW := fun j => if j = k then w else f j
def sMark (z : qZ) : qZ × Int32 := if (zMk z).1 < 3 then (uSt (uMk z ((zMk z).1 + 1, mkset (zMk z).2 (zMk z).1 (zNw z))) 0, nI ((zMk z).1 + 1)) else rf z 7
def sBack (z : qZ) : qZ × Int32 := if 0 < (zMk z).1 then (uSt (uMk (uNw z ((zMk z).2 ((zMk z).1 - 1))) ((zMk z).1 - 1, (zMk z).2)) 0, nI ((zMk z).1 - 1)) else rf z 8
theorem qin_0 {a : Int32} {n : Nat} (h : qin a n = true) (hn : n < 2 ^ 31) : ∃ j, j < n ∧ a = nI j ∧ a.toNatClampNeg = j := by
  obtain ⟨j, hj, e⟩ := qin_t h
  exact ⟨j, hj, e, by rw [e, nI_clamp (by omega)]⟩
theorem qin_br2 {a : Int32} {n : Nat} (hn : n < 2 ^ 31) {A B : Prop} (h1 : qin a n = false → A) (h2 : qin a n = true → B) : (a < 0 → A) ∧ (¬ a < 0 → (nI n ≤ a → A) ∧ (¬ nI n ≤ a → B)) := by
  have := qin_br (a := a) (n := n) hn (A := fun b => (b = false → A) ∧ (b = true → B)) ⟨h1, h2⟩
  exact ⟨fun c => (this.1 c).1 rfl, fun c => ⟨fun c2 => ((this.2 c).1 c2).1 rfl, fun c2 => ((this.2 c).2 c2).2 rfl⟩⟩
theorem lt_nle (a b : Int32) : a < b ↔ ¬ b ≤ a := by rw [Int32.not_le]
section COP
variable {x : jX} {d : Nat} {M : jM} {z : qZ}
theorem o_status {P : jM → Int32 → Prop} (h : cI M z) (hP : P M z.1) : JC x jtbC mX11_status d [.ref (x.2.2.2 0)] M (jI P) := by
  refine b_X11_status ?_
  rw [h.1]; exact hP
theorem o_top {P : jM → Int64 → Prop} (h : cI M z) (hP : P M z.2.1.1) : JC x jtbC mX11_top d [.ref (x.2.2.2 0)] M (jL P) := by
  refine b_X11_top ?_
  rw [h.2.1]; exact hP
theorem o_bottom {P : jM → Int64 → Prop} (h : cI M z) (hP : P M z.2.1.2) : JC x jtbC mX11_bottom d [.ref (x.2.2.2 0)] M (jL P) := by
  refine b_X11_bottom ?_
  rw [h.2.2.1]; exact hP
theorem o_fault {P : jM → Int32 → Prop} {a : Int32} (h : cI M z) (hP : P M (sFault z a)) : JC x jtbC mX11_fault d [.ref (x.2.2.2 0), .int a] M (jI P) := by
  unfold sFault at hP
  refine b_X11_fault ⟨fun c => ⟨0, by omega, c, ?_⟩, fun c => ⟨fun c2 => ?_, fun c2 => ⟨1, by omega, c2, ?_⟩⟩⟩
  · rw [h.2.2.2.2.2.2.1]; rw [if_pos c] at hP; exact hP
  · rw [if_neg c, if_neg c2] at hP; exact hP
  · rw [h.2.2.2.2.2.2.2.1]; rw [if_neg c, if_pos c2] at hP; exact hP
theorem o_many {P : jM → Int32 → Prop} {a : Int32} (h : cI M z) (hP : ∀ M', cI M' (sMany z a).1 → P M' (sMany z a).2) : JC x jtbC mX11_many (d + 1) [.ref (x.2.2.2 0), .int a] M (jI P) := by
  unfold sMany at hP
  refine b_X11_many ⟨fun c => ?_, fun c => ⟨fun c2 => ?_, fun c2 => ⟨fun c3 => ?_, fun c3 => ?_⟩⟩⟩
  · rw [if_pos c] at hP; rw [h.pl.w]; exact c_answered h hP
  · rw [if_neg c, if_pos c2] at hP; rw [h.pl.h]; exact c_answered h hP
  · rw [if_neg c, if_neg c2, if_pos c3] at hP; rw [h.pl.n]; exact c_answered h hP
  · rw [if_neg c, if_neg c2, if_neg c3] at hP; exact c_refused h hP
theorem o_cell {P : jM → Int32 → Prop} {a b : Int32} (h : cI M z) (hP : ∀ M', cI M' (sCell z a b).1 → P M' (sCell z a b).2) : JC x jtbC mX11_cell (d + 1) [.ref (x.2.2.2 0), .int a, .int b] M (jI P) := by
  unfold sCell at hP
  have h25 := h.pl.wf.c25
  refine b_X11_cell (k_hasCell atC5_30 h.pl ⟨fun c => ?_, fun c => ?_⟩)
  · rw [if_pos c] at hP
    obtain ⟨j, hj, rfl, e⟩ := qin_0 c (by omega)
    rw [e] at hP
    refine ⟨fun c => ⟨j, by omega, rfl, ?_⟩, fun c => ⟨fun c2 => ⟨j, by omega, rfl, ?_⟩, fun c2 => ⟨fun c3 => ⟨j, by omega, rfl, ?_⟩, fun c3 => ?_⟩⟩⟩
    · rw [if_pos c] at hP; rw [show M.1 31 j = _ from h.pl.most (by omega)]; exact c_answered h hP
    · rw [if_neg c, if_pos c2] at hP; rw [show M.1 32 j = _ from h.pl.least (by omega)]; exact c_answered h hP
    · rw [if_neg c, if_neg c2, if_pos c3] at hP; rw [show M.1 33 j = _ from h.pl.price (by omega)]; exact c_answered h hP
    · rw [if_neg c, if_neg c2, if_neg c3] at hP; exact c_refused h hP
  · rw [c] at hP; exact c_refused h hP
theorem o_village {P : jM → Int32 → Prop} {a b : Int32} (h : cI M z) (hP : ∀ M', cI M' (sVillage z a b).1 → P M' (sVillage z a b).2) : JC x jtbC mX11_village (d + 2) [.ref (x.2.2.2 0), .int a, .int b] M (jI P) := by
  unfold sVillage at hP
  have h6 := h.pl.wf.2.2.2.1
  refine b_X11_village (k_hasVillage atC5_30 h.pl ⟨fun c => ?_, fun c => ?_⟩)
  · rw [if_pos c] at hP
    obtain ⟨j, hj, rfl, e⟩ := qin_0 c (by omega)
    rw [e] at hP
    refine ⟨fun c => ⟨j, by omega, rfl, ?_⟩, fun c => ⟨fun c2 => ?_, fun c2 => ⟨fun c3 => ?_, fun c3 => ?_⟩⟩⟩
    · rw [if_pos c] at hP; rw [show M.1 35 j = _ from h.pl.side hj]; exact c_answered h hP
    · rw [if_neg c, if_pos c2] at hP; exact k_stripsOf atC5_30 h.pl hj (c_answered h hP)
    · rw [if_neg c, if_neg c2, if_pos c3] at hP
      refine k_hasSky atC5_30 h.pl (by omega) ⟨fun q => ?_, fun q => ?_⟩
      · rw [q] at hP; exact c_answered h hP
      · rw [q] at hP; exact c_answered h hP
    · rw [if_neg c, if_neg c2, if_neg c3] at hP; exact c_refused h hP
  · rw [c] at hP; exact c_refused h hP
theorem o_promised {P : jM → Int32 → Prop} {a b : Int32} (h : cI M z) (hP : ∀ M', cI M' (sPromised z a b).1 → P M' (sPromised z a b).2) : JC x jtbC mX11_promised (d + 3) [.ref (x.2.2.2 0), .int a, .int b] M (jI P) := by
  unfold sPromised at hP
  have h6 := h.pl.wf.2.2.2.1
  refine b_X11_promised (k_hasStrip atC5_30 h.pl ⟨fun c => ?_, fun c => ?_⟩)
  · rw [if_pos c] at hP
    rw [Bool.and_eq_true] at c
    obtain ⟨c1, c2⟩ := c
    obtain ⟨j, hj, rfl, e⟩ := qin_0 c1 (by omega)
    rw [e] at hP c2
    have h9 := qSt_le h.pl.wf j
    obtain ⟨s, hs, rfl, e2⟩ := qin_0 c2 (by omega)
    rw [e2] at hP
    refine k_hasSky atC5_30 h.pl (by omega) ⟨fun q => ⟨j * 9 + s, by omega, by rw [jn9, pk_mul, nI_add], ?_⟩, fun q => ?_⟩
    · rw [q] at hP
      rw [show M.1 36 (j * 9 + s) = _ from h.pl.line hj q hs]
      exact c_answered h hP
    · rw [q] at hP; exact c_refused h hP
  · rw [c] at hP; exact c_refused h hP
theorem o_strip {P : jM → Int32 → Prop} {a b : Int32} (h : cI M z) (hP : ∀ M', cI M' (sStrip z a b).1 → P M' (sStrip z a b).2) : JC x jtbC mX11_strip (d + 1) [.ref (x.2.2.2 0), .int a, .int b] M (jI P) := by
  unfold sStrip at hP
  have h25 := h.pl.wf.c25
  refine b_X11_strip (qin_br2 (n := 8) (by decide) (fun c => ?_) (fun c => k_hasCell atC5_30 h.pl ⟨fun c2 => ?_, fun c2 => ?_⟩))
  · rw [c] at hP; exact c_refused h hP
  · rw [c, c2] at hP
    obtain ⟨j, hj, rfl, e⟩ := qin_0 c (by omega)
    obtain ⟨k, hk, rfl, e2⟩ := qin_0 c2 (by omega)
    rw [e, e2] at hP
    exact k_stripAt atC5_30 h.pl hj hk (c_answered h hP)
  · rw [c, c2] at hP; exact c_refused h hP
theorem o_height {P : jM → Int32 → Prop} {a : Int32} (h : cI M z) (hP : ∀ M', cI M' (sHeight z a).1 → P M' (sHeight z a).2) : JC x jtbC mX11_height (d + 1) [.ref (x.2.2.2 0), .int a] M (jI P) := by
  unfold sHeight at hP
  have h25 := h.pl.wf.c25
  refine b_X11_height (k_hasCell atC5_30 h.pl ⟨fun c => ?_, fun c => ?_⟩)
  · rw [if_pos c] at hP
    obtain ⟨j, hj, rfl, e⟩ := qin_0 c (by omega)
    rw [e] at hP
    refine ⟨j, by omega, rfl, ?_⟩
    rw [h.tw j (by omega)]
    exact c_answered h hP
  · rw [c] at hP; exact c_refused h hP
theorem qht_in (b : Int32) : qht b.toInt64 = qin b 100 := by
  unfold qht qin
  rw [Int32.toInt_toInt64]
  congr 1
  apply propext
  omega
theorem tset_le {f : Nat → Nat} {k v : Nat} (hf : ∀ c, f c ≤ 99) (hv : v ≤ 99) : ∀ c, tset f k v c ≤ 99 := fun c => by
  unfold tset
  split
  · exact hv
  · exact hf c
theorem o_build {P : jM → Bool → Prop} {a b : Int32} (h : cI M z) (hP : ∀ M', cI M' (sBuild z a b).1 → P M' (sBuild z a b).2) : JC x jtbC mX11_build (d + 1) [.ref (x.2.2.2 0), .int a, .int b] M (jZ P) := by
  unfold sBuild at hP
  have h25 := h.pl.wf.c25
  refine b_X11_build (k_hasCell atC5_30 h.pl ⟨fun c => k_isHeight ?_, fun c => ?_⟩)
  · rw [if_pos c] at hP
    obtain ⟨j, hj, rfl, e⟩ := qin_0 c (by omega)
    rw [e] at hP
    rw [qht_in]
    refine ⟨fun c2 => ⟨j, by omega, rfl, ?_⟩, fun c2 => ?_⟩
    · rw [if_pos c2] at hP
      obtain ⟨k, hk, rfl, e2⟩ := qin_0 c2 (by omega)
      rw [e2] at hP
      rintro M3 rfl
      refine c_isDone (z := uTn z (tset (zT z) j k)) (h.setTn (jsame.I rfl) (fun c hc => ?_) (tset_le h.t9 (by omega))) hP
      rw [jrI_s]
      unfold tset
      by_cases q : c = j
      · rw [q, pk_us, if_pos rfl]
      · rw [pk_un q, if_neg q]; exact h.tw c hc
    · rw [c2] at hP; exact c_isDone h hP
  · rw [c] at hP; exact c_isDone h hP
theorem o_seen {P : jM → Int32 → Prop} {a b : Int32} (h : cI M z) (hP : ∀ M', cI M' (sSeen z a b).1 → P M' (sSeen z a b).2) : JC x jtbC mX11_seen (d + 3) [.ref (x.2.2.2 0), .int a, .int b] M (jI P) := by
  unfold sSeen at hP
  have h25 := h.pl.wf.c25
  have h6 := h.pl.wf.2.2.2.1
  refine b_X11_seen (k_hasStrip atC5_30 h.pl ⟨fun c => ?_, fun c => ?_⟩)
  · rw [if_pos c] at hP
    rw [Bool.and_eq_true] at c
    obtain ⟨c1, c2⟩ := c
    obtain ⟨j, hj, rfl, e⟩ := qin_0 c1 (by omega)
    rw [e] at hP c2
    have h9 := qSt_le h.pl.wf j
    obtain ⟨s, hs, rfl, e2⟩ := qin_0 c2 (by omega)
    rw [e2] at hP
    exact k_sightOf atC5_30 h.pl sC_39 (by decide) h25 (fun c hc => h.tw c (by omega)) h.t9 hj (by omega) (c_answered h hP)
  · rw [c] at hP; exact c_refused h hP
theorem o_stone {P : jM → Int32 → Prop} (h : cI M z) (hP : ∀ M', cI M' (sStone z).1 → P M' (sStone z).2) : JC x jtbC mX11_stone (d + 2) [.ref (x.2.2.2 0)] M (jI P) := by
  have h25 := h.pl.wf.c25
  exact b_X11_stone (k_stoneOf atC5_30 h.pl sC_39 (by decide) h25 (fun c hc => h.tw c (by omega)) h.t9 (c_answered h hP))
theorem nI_ne1 {n : Nat} (h : n < 2 ^ 31) : ¬ nI n = -1 := fun e => by
  have := congrArg Int32.toInt e
  rw [nI_toInt h] at this
  have e2 : (-1 : Int32).toInt = -1 := rfl
  omega
theorem o_otherwise {P : jM → Int32 → Prop} {a : Int32} (h : cI M z) (hP : ∀ M', cI M' (sOtherwise z a).1 → P M' (sOtherwise z a).2) : JC x jtbC mX11_otherwise (d + 4) [.ref (x.2.2.2 0), .int a] M (jI P) := by
  have h25 := h.pl.wf.c25
  have h6 := h.pl.wf.2.2.2.1
  have go : (a = 0 ∨ a = 1) → JW x jtbC mX11_otherwise (d + 4) (jI P) 15 [(0, .ref (x.2.2.2 0)), (1, .int a)] [] M := by
    intro ha
    have hq : qin a 2 = true := by rcases ha with rfl | rfl <;> decide
    unfold sOtherwise at hP
    rw [if_pos hq] at hP
    refine b_X11_otherwise_15 (k_firstUnlikeVillage atC5_30 h.pl sC_39 (by decide) h25 (fun c hc => h.tw c (by omega)) h.t9 (by decide) (fun M1 g1 g2 => ?_))
    have h1 : cI M1 z := h.scr (g1.mono (fun q hq => by unfold cScr; omega))
    by_cases q : qUv (zP z) (zT z) < qn (zP z)
    · rw [if_pos q] at hP ⊢
      have hy := qFst_yes (p := fun v => (qk (zP z)).testBit v && decide (qUs (zP z) (zT z) v < qSt (zP z) v)) (n := qn (zP z)) q
      have hy1 : ((qk (zP z)).testBit (qUv (zP z) (zT z)) && decide (qUs (zP z) (zT z) (qUv (zP z) (zT z)) < qSt (zP z) (qUv (zP z) (zT z)))) = true := hy.1
      rw [Bool.and_eq_true] at hy1
      have hlt := of_decide_eq_true hy1.2
      refine ⟨fun _ => ⟨fun c => ?_, fun c => ?_⟩, fun c => absurd c (nI_ne1 (by omega))⟩
      · rw [if_neg c] at hP
        refine k_firstUnlikeStrip atC5_30 h1.pl sC_39 (by decide) h25 (fun c hc => h1.tw c (by omega)) h1.t9 q hy1.1 (by decide) (fun M2 k1 k2 => ?_)
        rw [if_pos hlt]
        exact c_answered (h1.scr (k1.mono (fun q hq => by unfold cScr; omega))) hP
      · rw [if_pos c] at hP
        exact c_answered h1 hP
    · rw [if_neg q] at hP ⊢
      exact ⟨fun c => absurd rfl c, fun _ => c_refused h1 hP⟩
  refine b_X11_otherwise ⟨fun c => go (Or.inl c), fun c => ⟨fun c2 => go (Or.inr c2), fun c2 => ?_⟩⟩
  have hq : qin a 2 = false := by
    cases e : qin a 2 with
    | false => rfl
    | true =>
      obtain ⟨j, hj, rfl⟩ := qin_t e
      rcases (show j = 0 ∨ j = 1 by omega) with rfl | rfl
      · exact absurd rfl c
      · exact absurd rfl c2
  unfold sOtherwise at hP
  rw [hq] at hP
  exact c_refused h hP
theorem k_canKeep {P : jM → Bool → Prop} {set : Nat} (hset : set < 64) (h : cI M z) (hP : ∀ M', cI M' z → cSi M' (zP z) (pAsk (zP z) set) (qLine (zP z)) → cCp M' (zP z) (pCp (zP z) set) → (∀ k, k < 3 → M'.1 51 k = qBar (zP z) (pAsk (zP z) set) (qLine (zP z)) (pCp (zP z) set) k) → P M' (pCan (zP z) set)) : JC x jtbC mX11_canKeep (d + 4) [.ref (x.2.2.2 0), .int (nI set)] M (jZ P) := by
  refine b_X11_canKeep (k_wantPromises hset h.pl (fun M1 g1 g2 g3 g4 => ?_))
  have h1 : cI M1 z := h.scr (g1.mono (fun q hq => by unfold cScr; omega))
  refine k_canBeKept h1.pl g3 g4 (fun M2 k1 k2 k3 => ?_)
  refine hP M2 (h1.scr (k1.mono (fun q hq => by unfold cScr; omega))) ⟨by rw [(k1 49 (by omega)).1]; exact g3.1, g3.2.1, g3.2.2.1, fun v s a b c => by rw [(k1 52 (by omega)).1]; exact g3.2.2.2 v s a b c⟩ ⟨fun c hc => by rw [(k1 50 (by omega)).1]; exact g4.1 c hc, g4.2⟩ k3
theorem set64 {pl : qP} (w : qWf pl) {j : Nat} (h : j < 2 ^ qn pl) : j < 64 := Nat.lt_of_lt_of_le h (Nat.pow_le_pow_right (by decide) w.2.2.2.1)
theorem pow31 {pl : qP} (w : qWf pl) : 2 ^ qn pl < 2 ^ 31 := Nat.pow_lt_pow_right (by decide) (by have := w.2.2.2.1; omega)
theorem o_cap {P : jM → Int32 → Prop} {a b : Int32} (h : cI M z) (hP : ∀ M', cI M' (sCap z a b).1 → P M' (sCap z a b).2) : JC x jtbC mX11_cap (d + 3) [.ref (x.2.2.2 0), .int a, .int b] M (jI P) := by
  unfold sCap at hP
  have h25 := h.pl.wf.c25
  refine b_X11_cap (k_hasCell atC5_30 h.pl ⟨fun c => ?_, fun c => k_hasSet atC5_30 h.pl ⟨fun c2 => ?_, fun c2 => ?_⟩⟩)
  · rw [c] at hP; exact c_refused h hP
  · rw [c, c2] at hP
    obtain ⟨j, hj, rfl, e⟩ := qin_0 c (by omega)
    obtain ⟨k, hk, rfl, e2⟩ := qin_0 c2 (pow31 h.pl.wf)
    rw [e, e2] at hP
    refine k_wantPromises (set64 h.pl.wf hk) h.pl (fun M1 g1 g2 g3 g4 => ⟨j, by omega, rfl, ?_⟩)
    rw [g4.1 j hj]
    exact c_answered (h.scr (g1.mono (fun q hq => by unfold cScr; omega))) hP
  · rw [c, c2] at hP; exact c_refused h hP
theorem o_can {P : jM → Int32 → Prop} {a : Int32} (h : cI M z) (hP : ∀ M', cI M' (sCan z a).1 → P M' (sCan z a).2) : JC x jtbC mX11_can (d + 5) [.ref (x.2.2.2 0), .int a] M (jI P) := by
  unfold sCan at hP
  refine b_X11_can (k_hasSet atC5_30 h.pl ⟨fun c => ?_, fun c => ?_⟩)
  · rw [if_pos c] at hP
    obtain ⟨k, hk, rfl, e⟩ := qin_0 c (pow31 h.pl.wf)
    rw [e] at hP
    refine k_canKeep (set64 h.pl.wf hk) h (fun M1 h1 _ _ _ => ⟨fun q => ?_, fun q => ?_⟩)
    · rw [q] at hP; exact c_answered h1 hP
    · rw [q] at hP; exact c_answered h1 hP
  · rw [c] at hP; exact c_refused h hP
theorem o_barred {P : jM → Int32 → Prop} {a b : Int32} (h : cI M z) (hP : ∀ M', cI M' (sBarred z a b).1 → P M' (sBarred z a b).2) : JC x jtbC mX11_barred (d + 5) [.ref (x.2.2.2 0), .int a, .int b] M (jI P) := by
  unfold sBarred at hP
  refine b_X11_barred (k_hasSet atC5_30 h.pl ⟨fun c => ?_, fun c => ?_⟩)
  · rw [if_pos c] at hP
    obtain ⟨k, hk, rfl, e⟩ := qin_0 c (pow31 h.pl.wf)
    rw [e] at hP
    have b2 : ∀ {A B : Prop}, (qin b 3 = false → A) → (qin b 3 = true → B) → (b < 0 → A) ∧ (¬ b < 0 → (b ≤ 2 → B) ∧ (¬ b ≤ 2 → A)) := by
      intro A B h1 h2
      have := qin_br2 (a := b) (n := 3) (by decide) h1 h2
      refine ⟨this.1, fun c => ⟨fun c2 => (this.2 c).2 ?_, fun c2 => (this.2 c).1 ?_⟩⟩
      · rw [Int32.le_iff_toInt_le] at c2 ⊢
        have : (2 : Int32).toInt = 2 := rfl
        have : (nI 3).toInt = 3 := rfl
        omega
      · rw [Int32.le_iff_toInt_le] at c2 ⊢
        have : (2 : Int32).toInt = 2 := rfl
        have : (nI 3).toInt = 3 := rfl
        omega
    refine b2 (fun c2 => ?_) (fun c2 => ?_)
    · rw [c2] at hP; exact c_refused h hP
    · rw [if_pos c2] at hP
      obtain ⟨j, hj, rfl, e2⟩ := qin_0 c2 (by omega)
      rw [e2] at hP
      refine k_canKeep (set64 h.pl.wf hk) h (fun M1 h1 _ _ g => ⟨fun q => ⟨j, hj, rfl, ?_⟩, fun q => ?_⟩)
      · rw [q] at hP
        rw [g j hj]
        exact c_answered h1 hP
      · rw [q] at hP; exact c_refused h1 hP
  · rw [c] at hP; exact c_refused h hP
theorem k_keptStatus {P : jM → Int32 → Prop} {a : Int32} (h : cI M z) (h2 : ∀ M', cI M' z → qin a (2 ^ qn (zP z)) = false → P M' 2) (h9 : ∀ M' k, cI M' z → k < 64 → a = nI k → a.toNatClampNeg = k → qin a (2 ^ qn (zP z)) = true → pCan (zP z) k = false → P M' 9) (h0 : ∀ M' k, cI M' z → k < 64 → a = nI k → a.toNatClampNeg = k → qin a (2 ^ qn (zP z)) = true → pCan (zP z) k = true → cSi M' (zP z) (pAsk (zP z) k) (qLine (zP z)) → cCp M' (zP z) (pCp (zP z) k) → P M' 0) : JC x jtbC mX11_keptStatus (d + 5) [.ref (x.2.2.2 0), .int a] M (jI P) := by
  refine b_X11_keptStatus (k_hasSet atC5_30 h.pl ⟨fun c => ?_, fun c => h2 M h c⟩)
  obtain ⟨k, hk, rfl, e⟩ := qin_0 c (pow31 h.pl.wf)
  have h64 := set64 h.pl.wf hk
  exact k_canKeep h64 h (fun M1 h1 g3 g4 _ => ⟨fun q => h9 M1 k h1 h64 rfl e c q, fun q => h0 M1 k h1 h64 rfl e c q g3 g4⟩)
theorem qStone_cong {pl : qP} {f g : Nat → Nat} : ∀ {n : Nat}, (∀ c, c < n → f c = g c) → qStone pl f n = qStone pl g n
  | 0, _ => rfl
  | n + 1, h => by
    show qStone pl f n + _ = qStone pl g n + _
    rw [qStone_cong (fun c hc => h c (by omega)), h n (by omega)]
theorem o_largest {P : jM → Int32 → Prop} {a : Int32} (h : cI M z) (hP : ∀ M', cI M' (sLargest z a).1 → P M' (sLargest z a).2) : JC x jtbC mX11_largest (d + 6) [.ref (x.2.2.2 0), .int a] M (jI P) := by
  unfold sLargest at hP
  refine b_X11_largest (k_keptStatus h (fun M1 h1 c => ?_) (fun M1 k h1 hk ea e c q => ?_) (fun M1 k h1 hk ea e c q g3 g4 => ?_))
  · rw [c] at hP
    exact ⟨fun z => absurd z (by decide), fun _ => c_refused h1 hP⟩
  · rw [if_pos c, e, q] at hP
    exact ⟨fun z => absurd z (by decide), fun _ => c_refused h1 hP⟩
  · rw [if_pos c, e, q] at hP
    have h25 := h1.pl.wf.c25
    refine ⟨fun _ => ⟨qc (zP z), h1.pl.c, by omega, by omega, ?_⟩, fun z => absurd rfl z⟩
    rintro M2 rfl
    have cap9 : ∀ c, tcpy (pCp (zP z) k) (zT z) (qc (zP z)) c ≤ 99 := fun c => by
      unfold tcpy
      split
      · exact g4.2 c
      · exact h1.t9 c
    have rows : ∀ c, c < 25 → (jrI M1 39 (va_cpy (M1.1 50) (M1.1 39) 0 0 (qc (zP z)))).1 39 c = nI (tcpy (pCp (zP z) k) (zT z) (qc (zP z)) c) := by
      intro c hc
      rw [jrI_s]
      unfold tcpy
      by_cases q : c < qc (zP z)
      · rw [va_cpy0 q, if_pos q]; exact g4.1 c q
      · rw [pk_cpy_out (Or.inr (by omega)), if_neg q]; exact h1.tw c hc
    have h2 : cI (jrI M1 39 (va_cpy (M1.1 50) (M1.1 39) 0 0 (qc (zP z)))) (uTn z (tcpy (pCp (zP z) k) (zT z) (qc (zP z)))) := h1.setTn (jsame.I rfl) rows cap9
    refine k_stoneOf (f := tcpy (pCp (zP z) k) (zT z) (qc (zP z))) atC5_30 h2.pl sC_39 (by decide) h25 (fun c hc => rows c (by have : qc (zP z) ≤ 25 := h25; have hc' : c < qc (zP z) := hc; omega)) cap9 ?_
    rw [show qStone (zNw (uTn z (tcpy (pCp (zP z) k) (zT z) (qc (zP z))))).1 (tcpy (pCp (zP z) k) (zT z) (qc (zP z))) (qc (zNw (uTn z (tcpy (pCp (zP z) k) (zT z) (qc (zP z))))).1) = qStone (zP z) (pCp (zP z) k) (qc (zP z)) from qStone_cong (fun c hc => by unfold tcpy; exact if_pos hc)]
    exact c_answered h2 hP
theorem o_orderAt {P : jM → Int32 → Prop} {a : Int32} (h : cI M z) (hP : ∀ M', cI M' (sOrderAt z a).1 → P M' (sOrderAt z a).2) : JC x jtbC mX11_orderAt (d + 1) [.ref (x.2.2.2 0), .int a] M (jI P) := by
  unfold sOrderAt at hP
  obtain ⟨-, -, -, -, -, k6, -⟩ := h.ok
  have e : M.1 62 3 = nI (zOr z).1 := h.2.2.2.2.2.2.2.2.2.2.2.1
  refine b_X11_orderAt ?_
  rw [e]
  have := qin_br2 (a := a) (n := (zOr z).1) (by omega) (A := JC x jtbC mX11_refused d [.ref (x.2.2.2 0), .int (8 : Int32)] M (jI fun M1 r1 => P M1 r1)) (B := ∃ j1, j1 < 12 ∧ a = nI j1 ∧ JC x jtbC mX11_answered d [.ref (x.2.2.2 0), .int (M.1 65 j1)] M (jI fun M2 r2 => P M2 r2)) (fun c => by rw [c] at hP; exact c_refused h hP) (fun c => by
    rw [if_pos c] at hP
    obtain ⟨j, hj, rfl, e2⟩ := qin_0 c (by omega)
    rw [e2] at hP
    refine ⟨j, by omega, rfl, ?_⟩
    rw [h.2.2.2.2.2.2.2.2.2.2.2.2.1 j hj]
    exact c_answered h hP)
  refine ⟨this.1, fun c => ⟨fun c2 => (this.2 c).2 ((lt_nle _ _).mp c2), fun c2 => (this.2 c).1 ?_⟩⟩
  rw [lt_nle] at c2
  exact Decidable.of_not_not c2
theorem o_building {P : jM → Int32 → Prop} {a : Int32} (h : cI M z) (hP : ∀ M', cI M' (sBuilding z a).1 → P M' (sBuilding z a).2) : JC x jtbC mX11_building (d + 1) [.ref (x.2.2.2 0), .int a] M (jI P) := by
  unfold sBuilding at hP
  have e : ∀ k, k < 3 → M.1 74 k = zBl z k := h.2.2.2.2.2.2.2.2.2.2.2.2.2.1
  refine b_X11_building ?_
  have := qin_br2 (a := a) (n := 3) (by omega) (A := JC x jtbC mX11_refused d [.ref (x.2.2.2 0), .int (5 : Int32)] M (jI fun M1 r1 => P M1 r1)) (B := ∃ j1, j1 < 3 ∧ a = nI j1 ∧ ((¬ (M.1 74 j1) = (-1 : Int32) → JC x jtbC mX11_answered d [.ref (x.2.2.2 0), .int (M.1 74 j1)] M (jI fun M2 r2 => P M2 r2)) ∧ ((M.1 74 j1) = (-1 : Int32) → JC x jtbC mX11_refused d [.ref (x.2.2.2 0), .int (8 : Int32)] M (jI fun M3 r3 => P M3 r3)))) (fun c => by rw [c] at hP; exact c_refused h hP) (fun c => by
    rw [if_pos c] at hP
    obtain ⟨j, hj, rfl, e2⟩ := qin_0 c (by omega)
    rw [e2] at hP
    refine ⟨j, by omega, rfl, ?_⟩
    rw [e j hj]
    refine ⟨fun q => ?_, fun q => ?_⟩
    · rw [if_neg q] at hP; exact c_answered h hP
    · rw [if_pos q] at hP; exact c_refused h hP)
  refine ⟨this.1, fun c => ⟨fun c2 => (this.2 c).2 ?_, fun c2 => (this.2 c).1 ?_⟩⟩
  · rw [Int32.le_iff_toInt_le] at c2 ⊢
    have : (2 : Int32).toInt = 2 := rfl
    have : (nI 3).toInt = 3 := rfl
    omega
  · rw [Int32.le_iff_toInt_le] at c2 ⊢
    have : (2 : Int32).toInt = 2 := rfl
    have : (nI 3).toInt = 3 := rfl
    omega
end COP
