/-! the orders, as the class reads them -/
section OCT
variable {x : jX} {d : Nat} {M M2 M' M'' : jM} {f : Nat → Int32} {n a j : Nat} {pl : qP} {g : Nat → Int32} {e : Int32 × Int32} {st : qOS}
theorem oRes.seq {P : jM → Bool → Prop} {G : jM → Prop} {r : qE (Nat × (Nat → Int32))} {k : Nat → (Nat → Int32) → qE (Nat × (Nat → Int32))} (h : oRes P M f n j (eB r k)) (s : oR M M2 j) (cont : ∀ p, r = .inr p → ∀ M', cAc M' f n p.1 j p.2 → oR M2 M' j → oRes P M' f n j (k p.1 p.2) → G M') : oRes (fun M' b => (b = false → P M' false) ∧ (b = true → G M')) M2 f n j r :=
  ⟨fun p hp M' r' c' => ⟨fun u => (by cases u), fun _ => cont p hp M' c' r' (h.next hp (s.tr r'))⟩, fun e he M' ft => ⟨fun _ => h.fail he (s.ft ft), fun u => (by cases u)⟩⟩
theorem oRes.fin {P : jM → Bool → Prop} {r : qE (Nat × (Nat → Int32))} (h : oRes P M f n j r) : oRes (fun M' b => (b = false → P M' false) ∧ (b = true → P M' true)) M f n j r :=
  ⟨fun p hp M' r' c' => ⟨fun u => (by cases u), fun _ => h.1 p hp M' r' c'⟩, fun e he M' ft => ⟨fun _ => h.2 e he M' ft, fun u => (by cases u)⟩⟩
theorem k_oTest {P : jM → Bool → Prop} (hj : j < 60) (hp : cPl M 30 pl) (c : cAc M f n a j g) (h : oRes P M f n j (pTest f n a pl g)) : JC x jtbC mX4_readTest (d + 4) [.ref (x.2.2.2 16), .ref (x.2.2.2 30), .int (nI j)] M (jZ P) := by
  have il := yI_le (f := f) (n := n) (a := a)
  have key : ∀ k, k < 26 → (M.1 25 3 = nI k ↔ yI f n a = k) := fun k hk => by rw [c.1.2.1.2.2.2.2.2.1]; exact yWx_eq il hk
  have k11 : M.1 25 3 = (11 : Int32) ↔ yI f n a = 11 := key 11 (by decide)
  have k5 : M.1 25 3 = (5 : Int32) ↔ yI f n a = 5 := key 5 (by decide)
  have k13 : M.1 25 3 = (13 : Int32) ↔ yI f n a = 13 := key 13 (by decide)
  have k14 : M.1 25 3 = (14 : Int32) ↔ yI f n a = 14 := key 14 (by decide)
  have pre : ∀ (l3 : Int32) (G : jM → Prop), (∀ M2, oR M M2 j → cAc M2 f n (yX f n a) j (aSet g 1 l3) → G M2) → ∃ j1, j1 < 60 ∧ nI j = nI j1 ∧ (∀ M1, M1 = jrI M 19 (upd (M.1 19) j1 l3) → JC x jtbC mX7_step (d + 3) [.ref (x.2.2.2 25)] M1 (jV G)) := fun l3 G hG => by
    refine ⟨j, hj, rfl, fun M1 e1 => ?_⟩
    have c1 : cAc M1 f n a j (aSet g 1 l3) := by rw [e1]; exact c.put (i := 1) (by omega)
    have r1 : oR M M1 j := by rw [e1]; exact oR.put (i := 1) (by omega)
    exact k_stepOn c1.1 (fun M2 k2 t2 => hG M2 (r1.tr k2.o) (c1.step k2.1 t2))
  unfold pTest at h
  refine b_X4_readTest (d := d + 3) ⟨fun y => b_X4_readTest_40 (pre _ _ (fun M2 r2 c2 => ?_)), fun n11 => ⟨fun y => b_X4_readTest_40 (pre _ _ (fun M2 r2 c2 => ?_)), fun n5 => ⟨fun y => b_X4_readTest_40 (pre _ _ (fun M2 r2 c2 => ?_)), fun n13 => ⟨fun y => b_X4_readTest_40 (pre _ _ (fun M2 r2 c2 => ?_)), fun n14 => ?_⟩⟩⟩⟩
  · rw [if_pos (k11.mp y)] at h
    rw [y] at c2 ⊢
    have p2 := hp.o r2.1
    refine ⟨fun u => absurd u (by decide), fun _ => ⟨fun _ => k_oCell hj p2 c2 (h.seq r2 (fun q _ M3 c3 _ h3 => k_oCmp hj c3 (h3.seq oR.rf (fun q _ M4 c4 _ h4 => k_oNum (lo := 0) (hi := 99) (by omega) (by omega) hj c4 h4.fin)))), fun u => absurd rfl u⟩⟩
  · rw [if_neg (fun u => n11 (k11.mpr u)), if_pos (k5.mp y)] at h
    rw [y] at c2 ⊢
    have p2 := hp.o r2.1
    refine ⟨fun _ => k_oName hj p2 c2 (h.seq r2 (fun q _ M3 c3 _ h3 => k_oAt hj c3 (h3.seq oR.rf (fun q _ M4 c4 _ h4 => k_oCmp hj c4 (h4.seq oR.rf (fun q _ M5 c5 _ h5 => k_oNum (lo := 0) (hi := 99) (by omega) (by omega) hj c5 h5.fin)))))), fun u => absurd rfl u⟩
  · rw [if_neg (fun u => n11 (k11.mpr u)), if_neg (fun u => n5 (k5.mpr u)), if_pos (k13.mp y)] at h
    rw [y] at c2 ⊢
    have p2 := hp.o r2.1
    exact ⟨fun u => absurd u (by decide), fun _ => ⟨fun u => absurd u (by decide), fun _ => ⟨fun _ => k_oName hj p2 c2 (h.from r2), fun u => absurd rfl u⟩⟩⟩
  · rw [if_neg (fun u => n11 (k11.mpr u)), if_neg (fun u => n5 (k5.mpr u)), if_neg (fun u => n13 (k13.mpr u)), if_pos (k14.mp y)] at h
    rw [y] at c2 ⊢
    exact ⟨fun u => absurd u (by decide), fun _ => ⟨fun u => absurd u (by decide), fun _ => ⟨fun u => absurd u (by decide), fun _ => k_oCmp hj c2 (h.seq r2 (fun q _ M3 c3 _ h3 => k_oNum (lo := 0) (hi := 9999) (by omega) (by omega) hj c3 h3.fin))⟩⟩⟩
  · rw [if_neg (fun u => n11 (k11.mpr u)), if_neg (fun u => n5 (k5.mpr u)), if_neg (fun u => n13 (k13.mpr u)), if_neg (fun u => n14 (k14.mpr u))] at h
    exact k_refuse c.1 (fun M4 ft => h.2 _ rfl M4 ft.o)
theorem k_oRest {P : jM → Bool → Prop} {k : Nat} (hk : k = 6 ∨ k = 7 ∨ k = 9 ∨ k = 10 ∨ k = 15 ∨ k = 17) (hj : j < 60) (hp : cPl M 30 pl) (c : cAc M f n a j g) (h18 : M.1 18 j = nI k) (e17 : M.1 17 2 - 1 = nI j) (h : oRes P M f n j (pRest f n a pl k g)) : JC x jtbC mX4_readRest (d + 5) [.ref (x.2.2.2 16), .ref (x.2.2.2 30)] M (jZ P) := by
  refine b_X4_readRest (d := d + 4) ⟨j, hj, e17, ?_⟩
  rw [h18, e17]
  unfold pRest at h
  rcases hk with rfl | rfl | rfl | rfl | rfl | rfl
  · rw [if_pos (Or.inl rfl)] at h
    exact ⟨fun _ => k_oCell hj hp c (h.seq oR.rf (fun q _ M3 c3 _ h3 => k_oBy hj c3 h3.fin)), fun u => absurd rfl u⟩
  · rw [if_pos (Or.inr rfl)] at h
    exact ⟨fun u => absurd u (by decide), fun _ => ⟨fun _ => k_oCell hj hp c (h.seq oR.rf (fun q _ M3 c3 _ h3 => k_oBy hj c3 h3.fin)), fun u => absurd rfl u⟩⟩
  · rw [if_neg (by omega), if_pos (Or.inl rfl)] at h
    exact ⟨fun u => absurd u (by decide), fun _ => ⟨fun u => absurd u (by decide), fun _ => ⟨fun u => absurd u (by decide), fun _ => ⟨fun _ => k_oNum (lo := 1) (hi := 99) (by omega) (by omega) hj c h, fun u => absurd rfl u⟩⟩⟩⟩
  · rw [if_neg (by omega), if_neg (by omega), if_pos rfl] at h
    exact ⟨fun u => absurd u (by decide), fun _ => ⟨fun u => absurd u (by decide), fun _ => ⟨fun u => absurd u (by decide), fun _ => ⟨fun u => absurd u (by decide), fun _ => ⟨fun _ => k_oTest hj hp c h, fun u => absurd rfl u⟩⟩⟩⟩⟩
  · rw [if_neg (by omega), if_pos (Or.inr rfl)] at h
    exact ⟨fun u => absurd u (by decide), fun _ => ⟨fun u => absurd u (by decide), fun _ => ⟨fun u => absurd u (by decide), fun _ => ⟨fun u => absurd u (by decide), fun _ => ⟨fun u => absurd u (by decide), fun _ => ⟨fun u => absurd u (by decide), fun _ => ⟨fun u => absurd u (by decide), fun _ => ⟨fun u => absurd u (by decide), fun _ => ⟨fun u => absurd u (by decide), fun _ => ⟨fun _ => k_oNum (lo := 1) (hi := 99) (by omega) (by omega) hj c h, fun u => absurd rfl u⟩⟩⟩⟩⟩⟩⟩⟩⟩⟩
  · rw [if_neg (by omega), if_neg (by omega), if_neg (by omega)] at h
    exact ⟨fun u => absurd u (by decide), fun _ => ⟨fun u => absurd u (by decide), fun _ => ⟨fun u => absurd u (by decide), fun _ => ⟨fun u => absurd u (by decide), fun _ => ⟨fun u => absurd u (by decide), fun _ => ⟨fun u => absurd u (by decide), fun _ => ⟨fun u => absurd u (by decide), fun _ => ⟨fun u => absurd u (by decide), fun _ => ⟨fun u => absurd u (by decide), fun _ => ⟨fun u => absurd u (by decide), fun _ => h.1 _ rfl M oR.rf c⟩⟩⟩⟩⟩⟩⟩⟩⟩⟩
/-- where the class's reader of orders stands -/
def cOS (M : jM) (f : Nat → Int32) (n a : Nat) (st : qOS) : Prop := cRt M 25 f n a ∧ M.1 16 3 = nI st.1 ∧ (∀ i, i < st.1 → M.1 28 i = nI (st.2.1 i)) ∧ M.1 17 0 = 1 ∧ M.1 17 1 = nI st.2.2.1 ∧ M.1 17 2 = nI st.2.2.2.1 ∧ (∀ r, r < 7 → ∀ j, j < 60 → M.1 (18 + r) j = st.2.2.2.2 r j) ∧ M.1 25 6 = 0 ∧ M.1 25 7 = -1
def cOf (q : Nat) : Prop := (16 ≤ q ∧ q ≤ 25) ∨ q = 28
def oFf (M M' : jM) (e : Int32 × Int32) : Prop := jsame cOf M M' ∧ M'.1 25 6 = e.1 ∧ M'.1 25 7 = e.2
theorem oRw_cOf {q : Nat} (h : oRw q) : cOf q := by unfold oRw at h; unfold cOf; omega
theorem oFt.ff (h : oFt M M' e) : oFf M M' e := ⟨h.1.mono (fun q hq => oRw_cOf hq), h.2⟩
theorem oFf.from (s : jsame cOf M M') (h : oFf M' M'' e) : oFf M M'' e := ⟨s.tr h.1, h.2⟩
theorem cOS.col {k m : Nat} {g0 g' : Nat → Int32} {a1 : Nat} (hm : st.2.2.2.1 = m) (h : cOS M f n a (oOpen st k g0)) (r : oR M M' m) (c : cAc M' f n a1 m g') : cOS M' f n a1 (oOpen st k g') := by
  obtain ⟨h1, h2, h3, h4, h5, h6, h7, h8, h9⟩ := h
  have s : ∀ q, ¬ oRw q → M'.1 q = M.1 q := fun q hq => (r.1 q hq).1
  refine ⟨c.1, by rw [s 16 (by unfold oRw; omega)]; exact h2, fun i hi => by rw [s 28 (by unfold oRw; omega)]; exact h3 i hi, by rw [s 17 (by unfold oRw; omega)]; exact h4, by rw [s 17 (by unfold oRw; omega)]; exact h5, by rw [s 17 (by unfold oRw; omega)]; exact h6, fun q hq j hj => ?_, by rw [r.2.2 6 (by omega)]; exact h8, by rw [r.2.2 7 (by omega)]; exact h9⟩
  show _ = oCol st.2.2.2.2 st.2.2.2.1 g' q j
  unfold oCol
  by_cases e : j = st.2.2.2.1
  · rw [if_pos e, e, hm]; exact c.2 q hq
  · rw [if_neg e, r.2.1 q hq j (by omega), h7 q hq j hj]
    show oCol st.2.2.2.2 st.2.2.2.1 g0 q j = _
    unfold oCol
    rw [if_neg e]
theorem cOS.move {a1 : Nat} (h : cOS M f n a st) (k : rKp 25 M M') (r : cRt M' 25 f n a1) : cOS M' f n a1 st := by
  obtain ⟨h1, h2, h3, h4, h5, h6, h7, h8, h9⟩ := h
  have s : ∀ q, q ≠ 25 → M'.1 q = M.1 q := fun q hq => (k.1 q hq).1
  exact ⟨r, by rw [s 16 (by omega)]; exact h2, fun i hi => by rw [s 28 (by omega)]; exact h3 i hi, by rw [s 17 (by omega)]; exact h4, by rw [s 17 (by omega)]; exact h5, by rw [s 17 (by omega)]; exact h6, fun q hq j hj => by rw [s _ (by omega)]; exact h7 q hq j hj, by rw [k.2 6 (by omega)]; exact h8, by rw [k.2 7 (by omega)]; exact h9⟩
/-- a step opens -/
theorem k_oOpen {P : jM → Bool → Prop} (c : cOS M f n a st) (w : oInv st)
    (h1 : ∀ k, k = yI f n a → (k = 6 ∨ k = 7 ∨ k = 9 ∨ k = 10 ∨ k = 15 ∨ k = 17) → ¬ 30 ≤ st.2.2.1 → ¬ ((k = 10 ∨ k = 15) ∧ 3 ≤ st.1) → ∀ M', jsame cOf M M' → cOS M' f n (yX f n a) (oOpen st k (aSet (fun r => st.2.2.2.2 r st.2.2.2.1) 0 (nI k))) → P M' true)
    (h2 : ∀ e, (¬ (yI f n a = 6 ∨ yI f n a = 7 ∨ yI f n a = 9 ∨ yI f n a = 10 ∨ yI f n a = 15 ∨ yI f n a = 17) ∧ e = yF f n a 2) ∨ ((yI f n a = 6 ∨ yI f n a = 7 ∨ yI f n a = 9 ∨ yI f n a = 10 ∨ yI f n a = 15 ∨ yI f n a = 17) ∧ ((30 ≤ st.2.2.1 ∧ e = yF f n a 6) ∨ (¬ 30 ≤ st.2.2.1 ∧ ((yI f n a = 10 ∨ yI f n a = 15) ∧ 3 ≤ st.1) ∧ e = yF f n a 7))) → ∀ M', oFf M M' e → P M' false) : JC x jtbC mX4_openStep (d + 2) [.ref (x.2.2.2 16)] M (jZ P) := by
  obtain ⟨t, c2, c3, c4, c5, c6, c7, c8, c9⟩ := id c
  obtain ⟨w1, w2, w3, w4⟩ := id w
  obtain ⟨dp, sk, s, m, o⟩ := st
  dsimp only at c2 c3 c5 c6 c7 w1 w2 w3 w4 h1 h2
  have il := yI_le (f := f) (n := n) (a := a)
  have key : ∀ k, k < 26 → (M.1 25 3 = nI k ↔ yI f n a = k) := fun k hk => by rw [t.2.1.2.2.2.2.2.1]; exact yWx_eq il hk
  have k10 : M.1 25 3 = (10 : Int32) ↔ yI f n a = 10 := key 10 (by decide)
  have k15 : M.1 25 3 = (15 : Int32) ↔ yI f n a = 15 := key 15 (by decide)
  have k6 : M.1 25 3 = (6 : Int32) ↔ yI f n a = 6 := key 6 (by decide)
  have k7 : M.1 25 3 = (7 : Int32) ↔ yI f n a = 7 := key 7 (by decide)
  have k9 : M.1 25 3 = (9 : Int32) ↔ yI f n a = 9 := key 9 (by decide)
  have k17 : M.1 25 3 = (17 : Int32) ↔ yI f n a = 17 := key 17 (by decide)
  -- the act is noted, the token taken
  have last : ∀ M1, (yI f n a = 6 ∨ yI f n a = 7 ∨ yI f n a = 9 ∨ yI f n a = 10 ∨ yI f n a = 15 ∨ yI f n a = 17) → ¬ 30 ≤ s → ¬ ((yI f n a = 10 ∨ yI f n a = 15) ∧ 3 ≤ dp) → (∀ q, q ≠ 28 → q ≠ 16 → M1.1 q = M.1 q) → M1.2 = M.2 → M1.1 16 3 = nI (if yI f n a = 10 ∨ yI f n a = 15 then dp + 1 else dp) → (∀ i, i < (if yI f n a = 10 ∨ yI f n a = 15 then dp + 1 else dp) → M1.1 28 i = nI ((if yI f n a = 10 ∨ yI f n a = 15 then tset sk dp m else sk) i)) → JW x jtbC mX4_openStep (d + 2) (jZ P) 151 [(0, .ref (x.2.2.2 16)), (1, .int (M.1 25 3)), (3, .int (nI m))] [] M1 := fun M1 kd n30 n3 s1 s2 s3 s4 => by
    refine b_X4_openStep_151 (d := d + 1) ⟨m, by omega, rfl, fun M2 e2 M3 e3 M4 e4 => ?_⟩
    rw [(key (yI f n a) (by omega)).mpr rfl] at e2
    have q4 : ∀ q, q ≠ 28 → q ≠ 16 → q ≠ 17 → q ≠ 18 → M4.1 q = M.1 q := fun q q1 q2 q3 q4 => by rw [e4, jrI_n q3, e3, jrI_n q3, e2, jrI_n q4]; exact s1 q q1 q2
    have v4 : M4.2 = M.2 := by rw [e4, e3, e2]; exact s2
    have r4 : cRt M4 25 f n a := t.keep (q4 25 (by omega) (by omega) (by omega) (by omega)) (by rw [v4]) (q4 2 (by omega) (by omega) (by omega) (by omega)) (by rw [v4])
    have s17 : M2.1 17 = M.1 17 := by rw [e2, jrI_n (by omega)]; exact s1 17 (by omega) (by omega)
    rw [s17, c5, show (1 : Int32) = nI 1 from rfl, nI_add] at e3
    have x2 : M3.1 17 2 = nI m := by rw [e3, jrI_s, pk_un (by omega)]; exact c6
    rw [x2, show (1 : Int32) = nI 1 from rfl, nI_add] at e4
    have c16 : M4.1 16 = M1.1 16 := by rw [e4, jrI_n (by omega), e3, jrI_n (by omega), e2, jrI_n (by omega)]
    have c28 : M4.1 28 = M1.1 28 := by rw [e4, jrI_n (by omega), e3, jrI_n (by omega), e2, jrI_n (by omega)]
    have st4 : cOS M4 f n a (oOpen (dp, sk, s, m, o) (yI f n a) (aSet (fun r => o r m) 0 (nI (yI f n a)))) := by
      refine ⟨r4, by rw [c16]; exact s3, fun i hi => by rw [c28]; exact s4 i hi, ?_, ?_, ?_, fun r hr j hj => ?_, ?_, ?_⟩
      · rw [e4, jrI_s, pk_un (by omega), e3, jrI_s, pk_un (by omega)]; exact c4
      · rw [e4, jrI_s, pk_un (by omega), e3, jrI_s, pk_us]; rfl
      · rw [e4, jrI_s, pk_us]; rfl
      · show _ = oCol o m (aSet (fun r => o r m) 0 (nI (yI f n a))) r j
        unfold oCol aSet
        by_cases r0 : r = 0
        · subst r0
          rw [e4, jrI_n (by omega), e3, jrI_n (by omega), e2, jrI_s]
          by_cases jm : j = m
          · rw [if_pos jm, if_pos rfl, jm, pk_us]
          · rw [if_neg jm, pk_un jm, s1 18 (by omega) (by omega)]; exact c7 0 hr j hj
        · rw [q4 (18 + r) (by omega) (by omega) (by omega) (by omega), c7 r hr j hj]
          by_cases jm : j = m
          · rw [if_pos jm, if_neg r0, jm]
          · rw [if_neg jm]
      · rw [q4 25 (by omega) (by omega) (by omega) (by omega)]; exact c8
      · rw [q4 25 (by omega) (by omega) (by omega) (by omega)]; exact c9
    refine k_stepOn r4 (fun M5 k5 r5 => h1 _ rfl kd n30 n3 M5 (fun q hq => ?_) (st4.move k5 r5))
    have n25 : q ≠ 25 := fun u => hq (by unfold cOf; omega)
    have := k5.1 q n25
    exact ⟨this.1.trans (q4 q (fun u => hq (by unfold cOf; omega)) (fun u => hq (by unfold cOf; omega)) (fun u => hq (by unfold cOf; omega)) (fun u => hq (by unfold cOf; omega))), this.2.trans (by rw [v4])⟩
  -- its limits
  have mid : ∀ b : Bool, (b = true ↔ (yI f n a = 10 ∨ yI f n a = 15)) → (yI f n a = 6 ∨ yI f n a = 7 ∨ yI f n a = 9 ∨ yI f n a = 10 ∨ yI f n a = 15 ∨ yI f n a = 17) → JW x jtbC mX4_openStep (d + 2) (jZ P) 63 [(0, .ref (x.2.2.2 16)), (1, .int (M.1 25 3)), (2, .int (jb b))] [] M := fun b hb kd => by
    refine b_X4_openStep_63 (d := d + 1) ?_
    rw [c5, c6, c2]
    refine pk_le 30 s (fun l => k_refuse t (fun M' ft => h2 _ (Or.inr ⟨kd, Or.inl ⟨l, rfl⟩⟩) M' ft.o.ff)) (fun l => pk_lt m 60 (fun _ => ?_) (fun u => absurd u (by omega)))
    cases b with
    | false =>
      have nb : ¬ (yI f n a = 10 ∨ yI f n a = 15) := fun u => by have := hb.mpr u; cases this
      refine ⟨fun _ => b_X4_openStep_119 (d := d + 1) ⟨fun _ => ?_, fun u => absurd rfl u⟩, fun u => absurd rfl u⟩
      rw [c6]
      exact last M kd (by omega) (fun u => nb u.1) (fun _ _ _ => rfl) rfl (by rw [if_neg nb]; exact c2) (fun i hi => by rw [if_neg nb] at hi ⊢; exact c3 i hi)
    | true =>
      have yb := hb.mp rfl
      refine ⟨fun u => absurd u (by decide), fun _ => pk_lt dp 3 (fun d3 => b_X4_openStep_119 (d := d + 1) ⟨fun u => absurd u (by decide), fun _ => ⟨dp, d3, c2, fun M1 e1 M2 e2 => ?_⟩⟩) (fun d3 => k_refuse t (fun M' ft => h2 _ (Or.inr ⟨kd, Or.inr ⟨by omega, ⟨yb, by omega⟩, rfl⟩⟩) M' ft.o.ff))⟩
      have x3 : M1.1 16 3 = nI dp := by rw [e1, jrI_n (by omega)]; exact c2
      rw [x3, show (1 : Int32) = nI 1 from rfl, nI_add] at e2
      rw [c6] at e1 ⊢
      refine last M2 kd (by omega) (fun u => absurd u.2 (by omega)) (fun q q1 q2 => by rw [e2, jrI_n q2, e1, jrI_n q1]) (by rw [e2, e1]; rfl) (by rw [if_pos yb, e2, jrI_s, pk_us]) (fun i hi => ?_)
      rw [if_pos yb] at hi ⊢
      rw [e2, jrI_n (by omega), e1, jrI_s]
      unfold tset
      by_cases e : i = dp
      · rw [if_pos e, e, pk_us]
      · rw [if_neg e, pk_un e]; exact c3 i (by omega)
  refine b_X4_openStep (d := d + 1) ?_
  rw [k10, k15]
  refine ⟨fun y => b_X4_openStep_25 (d := d + 1) ⟨fun _ => mid true ⟨fun _ => Or.inl y, fun _ => rfl⟩ (by omega), fun u => absurd u (by decide)⟩, fun n10 => ⟨fun n15 => b_X4_openStep_25 (d := d + 1) ⟨fun u => absurd rfl u, fun _ => ?_⟩, fun y => b_X4_openStep_25 (d := d + 1) ⟨fun _ => mid true ⟨fun _ => Or.inr y, fun _ => rfl⟩ (by omega), fun u => absurd u (by decide)⟩⟩⟩
  rw [k6, k7, k9, k17]
  have nb : false = true ↔ (yI f n a = 10 ∨ yI f n a = 15) := ⟨fun u => (by cases u), fun u => absurd u (by omega)⟩
  exact ⟨fun y => mid false nb (by omega), fun n6 => ⟨fun y => mid false nb (by omega), fun n7 => ⟨fun y => mid false nb (by omega), fun n9 => ⟨fun y => mid false nb (by omega), fun n17 => k_refuse t (fun M' ft => h2 _ (Or.inl ⟨by omega, rfl⟩) M' ft.o.ff)⟩⟩⟩⟩
end OCT
