/-! built and tally, of the class -/
def qSt0 (t : Nat → Nat) (seed : Nat) : qR := (t, seed, 0, 0, 0, false, 0)
def qRun (pl : qP) (o : qO) (seed : Nat) (t : Nat → Nat) : qR := qExec pl o (o.1 2).toNatClampNeg 0 (o.1 2).toNatClampNeg (qSt0 t seed)
def three (a b c : Int32) : Nat → Int32 := fun k => if k = 0 then a else if k = 1 then b else c
def sBuilt (z : qZ) (a : Int32) : qZ × Int32 := if qin a 10000 then (if (zNw z).2.2.1 0 = 0 then rf z 8 else
  (uSt (uBl (uTn z (rT (qRun (zP z) (zNw z).2.2 a.toNatClampNeg (zT z)))) (three (nI (rL (qRun (zP z) (zNw z).2.2 a.toNatClampNeg (zT z)))) (nI (rK (qRun (zP z) (zNw z).2.2 a.toNatClampNeg (zT z)))) (nI (rF (qRun (zP z) (zNw z).2.2 a.toNatClampNeg (zT z)))))) 0, nI (rS (qRun (zP z) (zNw z).2.2 a.toNatClampNeg (zT z))))) else rf z 5
def qTal (pl : qP) (o : qO) (seed : Nat) (t : Nat → Nat) : Nat → Nat
  | 0 => 0
  | k + 1 => qTal pl o seed t k + (if qUv pl (rT (qRun pl o (seed + k) t)) < qn pl then 0 else 1)
def sTally (z : qZ) (a m : Int32) : qZ × Int32 := if qrg m 1 30 && decide (0 ≤ a.toInt ∧ a.toInt + m.toInt ≤ 10000) then (if (zNw z).2.2.1 0 = 0 then rf z 8 else an z (nI (qTal (zP z) (zNw z).2.2 a.toNatClampNeg (zT z) m.toNatClampNeg))) else rf z 5
theorem rF_le {pl : qP} {o : qO} : ∀ n a e s, rF s ≤ 1 → rF (qExec pl o n a e s) ≤ 1 := by
  intro n
  induction n with
  | zero => intro a e s h; exact h
  | succ n ih =>
    intro a e s h
    have it : ∀ b c k s, rF s ≤ 1 → rF (qIt (qExec pl o n b c) k s) ≤ 1 := by
      intro b c k
      induction k with
      | zero => intro s h; exact h
      | succ k ihk => intro s h; exact ihk _ (ih b c s h)
    rw [qExec]
    split
    · exact h
    · split
      · exact Nat.le_refl 1
      · split
        · refine ih _ _ _ ?_
          split
          · exact ih _ _ _ h
          · exact h
        · split
          · exact ih _ _ _ (it _ _ _ _ h)
          · refine ih _ _ _ ?_
            unfold qDo
            split
            · exact h
            · split
              · exact h
              · split
                · split
                  · exact h
                  · have : ∀ k, rF (qRage (qc pl) k (qInc s)) = rF s := fun k => by
                      induction k with
                      | zero => rfl
                      | succ k ih => rw [qRage]; exact ih
                    rw [this]; exact h
                · exact h
theorem cI.setBl {M M' : jM} {z : qZ} {f : Nat → Int32} (h : cI M z) (hs : jsame (fun q => q = 74) M M') (hf : ∀ k, k < 3 → M'.1 74 k = f k) : cI M' (uBl z f) := by
  obtain ⟨a1, a2, a3, a4, a5, a6, a7, a8, a9, a10, a11, a12, a13, a14, a15, a16⟩ := h
  have r : ∀ q, ¬ q = 74 → M'.1 q = M.1 q ∧ M'.2 q = M.2 q := hs
  have ok : zOk z := a16
  obtain ⟨k1, k2, k3, k4, k5, k6, k7⟩ := id a16
  exact ⟨by rw [(r 0 (by omega)).1]; exact a1, by rw [(r 75 (by omega)).2]; exact a2, by rw [(r 75 (by omega)).2]; exact a3, fun t ht => (a4 t ht).keep (r _ (by omega)).1 (r _ (by omega)).2, by rw [(r 0 (by omega)).1]; exact a5, fun k hk => by rw [(r 2 (by omega)).1]; exact a6 k hk, by rw [(r 76 (by omega)).1]; exact a7, by rw [(r 76 (by omega)).1]; exact a8, a9.keep (fun q q1 q2 q3 => (r q (by omega)).1) (r _ (by omega)).2, by rw [(r 0 (by omega)).1]; exact a10, fun m hm => (a11 m hm).keep (fun q q1 q2 q3 => (r q (by omega)).1) (r _ (by omega)).2, by rw [(r 62 (by omega)).1]; exact a12, fun k hk => by rw [(r 65 (by omega)).1]; exact a13 k hk, hf, fun k hk => by rw [(r 14 (by omega)).2, (r 26 (by omega)).2]; exact a15 k hk, ok⟩
section BLT
variable {x : jX} {d : Nat} {M : jM} {z : qZ}
theorem k_isSeed {P : jM → Bool → Prop} {a : Int32} (h : P M (qin a 10000)) : JC x jtbC mX11_isSeed d [.int a] M (jZ P) := by
  have e : ∀ b, qin a 10000 = b → P M b := fun b hb => hb ▸ h
  have h9 : (9999 : Int32).toInt = 9999 := rfl
  have h0 : (0 : Int32).toInt = 0 := rfl
  refine b_X11_isSeed ⟨fun c => e _ (decide_eq_false ?_), fun c => ⟨fun c2 => e _ (decide_eq_false ?_), fun c2 => e _ (decide_eq_true ?_)⟩⟩
  · rw [Int32.lt_iff_toInt_lt] at c; omega
  · rw [Int32.lt_iff_toInt_lt] at c2; omega
  · rw [Int32.lt_iff_toInt_lt] at c c2; omega
theorem k_work {P : jM → Prop} {pl : qP} {o : qO} {p N n0 seed : Nat} {t : Nat → Nat} (B : cBs M pl o p N n0) (hN : o.1 2 = nI N) (r39 : ∀ c, c < 25 → M.1 p c = nI (t c)) (t9 : ∀ c, t c ≤ 99) (hs : seed < 65536) (hP : ∀ M', cMs M p M' (qRun pl o seed t) → P M') : JC x jtbC mX2_work (d + 5) [.ref (x.2.2.2 70), .ref (x.2.2.2 40), .ref (x.2.2.2 30), .ref (x.2.2.2 p), .int (nI seed)] M (jV P) := by
  have hN60 := B.2.2.1
  have hA := B.2.2.2.2.2.2.2.2.1
  have hp := B.2.2.2.2.2.2.2.1
  have p70 : p ≠ 70 := by omega
  have eN : (o.1 2).toNatClampNeg = N := by rw [hN, nI_clamp (by omega)]
  unfold qRun at hP
  rw [eN] at hP
  refine b_X2_work ?_
  rintro M1 rfl M2 rfl M3 rfl M4 rfl M5 e5
  have h5 : cMs M p M5 (qSt0 t seed) := by
    rw [e5]
    refine ⟨?_, rfl, fun c hc => ?_, ?_, ?_, ?_, ?_, ?_, ⟨t9, hs, Nat.zero_le _, Nat.zero_le _, Nat.zero_le _⟩⟩
    · exact ((((jsame.I (Or.inr (Or.inr (Or.inl rfl)))).tr (jsame.I (Or.inr (Or.inr (Or.inl rfl))))).tr (jsame.I (Or.inr (Or.inr (Or.inl rfl))))).tr (jsame.I (Or.inr (Or.inr (Or.inl rfl))))).tr (jsame.I (Or.inr (Or.inr (Or.inl rfl))))
    · rw [jrI_n p70, jrI_n p70, jrI_n p70, jrI_n p70, jrI_n p70]; exact r39 c hc
    · simp (disch := omega) only [jrI_s, pk_us, pk_un]; rfl
    · simp (disch := omega) only [jrI_s, pk_us, pk_un]; rfl
    · simp (disch := omega) only [jrI_s, pk_us, pk_un]; rfl
    · simp (disch := omega) only [jrI_s, pk_us, pk_un]; rfl
    · simp (disch := omega) only [jrI_s, pk_us, pk_un]; rfl
  clear e5
  refine c_exec B N 0 N (qSt0 t seed) M5 0 0 (by omega) (bk_all hA) h5 rfl (Nat.zero_le _) (fun M' t' u1 u2 u3 u4 => ?_) (fun M' _ u2 => hP M' u2)
  have S4 := u2.2.2.2.2.2.2.2.2.2.2.1
  refine b_X2_work_32 (pk_le 1000000 t' (fun c => absurd c (by omega)) (fun _ => ?_))
  rw [(B.row u2).2.1]
  exact pk_le N N (fun _ => hP M' u2) (fun c => absurd c (by omega))
/-- what the orders give -/
theorem cI.bs (h : cI M z) (ho : ¬ (zNw z).2.2.1 0 = 0) : ∃ N, (zNw z).2.2.1 2 = nI N ∧ cBs M (zP z) (zNw z).2.2 39 N 25 ∧ cBs M (zP z) (zNw z).2.2 73 N 25 := by
  obtain ⟨-, -, hok, -⟩ := h.ok
  have co := h.nw.2.2.2
  obtain ⟨c1, c2, c3, c4, n, c5, c6, c7⟩ := co
  obtain ⟨n', d1, d2, d3, d4, d5, d6⟩ := hok (c2.resolve_left ho)
  obtain rfl : n' = n := (nI_eq (by omega) (by omega)).mp (d2.symm.trans c6)
  have rows : ∀ a, a < n' → ∀ r, r < 7 → M.1 (41 + r) a = (zNw z).2.2.2 r a := fun a ha r hr => c7 r hr a ha
  exact ⟨n', c6, ⟨h.pl, by rw [← c6]; exact c4, c5, rows, sC_39, by decide, by decide, Or.inl rfl, d5, d6⟩, ⟨h.pl, by rw [← c6]; exact c4, c5, rows, sC_73, by decide, by decide, Or.inr rfl, d5, d6⟩⟩
theorem o_built {P : jM → Int32 → Prop} {a : Int32} (h : cI M z) (hP : ∀ M', cI M' (sBuilt z a).1 → P M' (sBuilt z a).2) : JC x jtbC mX11_built (d + 6) [.ref (x.2.2.2 0), .int a] M (jI P) := by
  unfold sBuilt at hP
  have e40 : M.1 40 0 = (zNw z).2.2.1 0 := h.nw.2.2.2.1
  refine b_X11_built (k_isSeed ⟨fun q => ?_, fun q => by rw [q] at hP; exact c_refused h hP⟩)
  rw [if_pos q] at hP
  obtain ⟨seed, hs, rfl, e⟩ := qin_0 q (by omega)
  rw [e] at hP
  rw [e40]
  refine ⟨fun ho => ?_, fun ho => by rw [if_pos ho] at hP; exact c_refused h hP⟩
  rw [if_neg ho] at hP
  obtain ⟨N, hN, B, _⟩ := h.bs ho
  refine k_work B hN h.tw h.t9 (by omega) (fun M2 g => ?_)
  generalize qRun (zP z) (zNw z).2.2 seed (zT z) = r at *
  obtain ⟨g1, g2, g3, g4, g5, g6, g7, g8, g9⟩ := g
  have h2 : cI M2 (uTn z (rT r)) := by
    have hA : cI (jrI M2 39 (M.1 39)) z := h.scr (fun q hq => by
      by_cases e : q = 39
      · rw [e, jrI_s, jrI_2]; exact ⟨rfl, by rw [g2]⟩
      · rw [jrI_n e, jrI_2, g2]
        refine ⟨(g1 q ?_).1, rfl⟩
        intro c
        apply hq
        unfold cScr
        omega)
    refine hA.setTn (fun q hq => ⟨by rw [jrI_n hq], rfl⟩) g3 g9.1
  intro M3 e3 M4 e4 M5 e5
  have x3 : M3.1 70 = M2.1 70 := by rw [e3, jrI_n (by omega)]
  have x4 : M4.1 70 = M2.1 70 := by rw [e4, jrI_n (by omega), x3]
  have x5 : M5.1 70 = M2.1 70 := by rw [e5, jrI_n (by omega), x4]
  have h5 : cI M5 (uBl (uTn z (rT r)) (three (nI (rL r)) (nI (rK r)) (nI (rF r)))) := by
    refine h2.setBl ?_ (fun k hk => ?_)
    · rw [e5, e4, e3]; exact ((jsame.I (S := fun q => q = 74) rfl).tr (jsame.I rfl)).tr (jsame.I rfl)
    · rw [e5, jrI_s]
      unfold three
      rcases (show k = 0 ∨ k = 1 ∨ k = 2 by omega) with rfl | rfl | rfl
      · rw [pk_un (by omega), e4, jrI_s, pk_un (by omega), e3, jrI_s, pk_us]; exact g5
      · rw [pk_un (by omega), e4, jrI_s, pk_us, x3]; exact g6
      · rw [pk_us, x4]; exact g7
  rw [x5, g4]
  exact c_answered h5 hP
theorem o_tally {P : jM → Int32 → Prop} {a m : Int32} (h : cI M z) (hP : ∀ M', cI M' (sTally z a m).1 → P M' (sTally z a m).2) : JC x jtbC mX11_tally (d + 6) [.ref (x.2.2.2 0), .int a, .int m] M (jI P) := by
  unfold sTally at hP
  have w := h.pl.wf
  have c25 := w.c25
  have h6 := w.2.2.2.1
  have e40 : M.1 40 0 = (zNw z).2.2.1 0 := h.nw.2.2.2.1
  have no : (qrg m 1 30 && decide (0 ≤ a.toInt ∧ a.toInt + m.toInt ≤ 10000)) = false → JC x jtbC mX11_refused (d + 5) [.ref (x.2.2.2 0), .int (5 : Int32)] M (jI fun M2 r1 => P M2 r1) := fun e => by
    rw [e] at hP; exact c_refused h hP
  have r1 : (1 : Int32).toInt = 1 := rfl
  have r30 : (30 : Int32).toInt = 30 := rfl
  refine b_X11_tally (k_isSeed ⟨fun q => no ?_, fun q => ⟨fun q1 => no ?_, fun q1 => ⟨fun q2 => no ?_, fun q2 => ?_⟩⟩⟩)
  · unfold qin at q
    have := of_decide_eq_false q
    by_cases u : qrg m 1 30 = true
    · have := of_decide_eq_true u
      rw [decide_eq_false (by omega), Bool.and_false]
    · rw [Bool.eq_false_iff.mpr u]; rfl
  · rw [Int32.lt_iff_toInt_lt] at q1
    rw [show qrg m 1 30 = false from decide_eq_false (by omega)]; rfl
  · rw [Int32.lt_iff_toInt_lt] at q2
    rw [show qrg m 1 30 = false from decide_eq_false (by omega)]; rfl
  · rw [Int32.lt_iff_toInt_lt] at q1 q2
    have u : qrg m 1 30 = true := decide_eq_true (by omega)
    obtain ⟨many, m1, m2, rfl, e2⟩ := qrg_t u (by omega)
    obtain ⟨seed, hs, rfl, e1⟩ := qin_0 q (by omega)
    rw [nI_add, jn1, pk_sub (by omega)]
    have t1 := nI_toInt (n := seed) (by omega)
    have t2 := nI_toInt (n := many) (by omega)
    refine k_isSeed ?_
    rw [qin_nI (by omega)]
    by_cases v : seed + many ≤ 10000
    · rw [decide_eq_true (show seed + many - 1 < 10000 by omega)]
      refine ⟨fun _ => ?_, fun c => (by cases c)⟩
      rw [u, decide_eq_true (by rw [t1, t2]; omega), if_pos (by rfl), e1, e2] at hP
      rw [e40]
      refine ⟨fun ho => ?_, fun ho => by rw [if_pos ho] at hP; exact c_refused h hP⟩
      rw [if_neg ho] at hP
      refine jloop2 (fun k (M3 : jM) (s : Int32) => JW x jtbC mX11_tally (d + 6) (jI P) 60 [(0, .ref (x.2.2.2 0)), (1, .int (nI seed)), (2, .int (nI many)), (3, .int s), (4, .int (nI k))] [] M3) (fun k M3 s => cI M3 z ∧ s = nI (qTal (zP z) (zNw z).2.2 seed (zT z) k)) many ?_ ?_ 0 M 0 (Nat.zero_le _) ⟨h, rfl⟩
      · rintro M3 _ ⟨g, rfl⟩
        exact b_X11_tally_60 (pk_le many many (fun _ => c_answered g hP) (fun c => absurd c (by omega)))
      · rintro k M3 _ hk ⟨g, rfl⟩ ih
        refine b_X11_tally_60 (pk_le many k (fun c => absurd c (by omega)) (fun _ => ⟨by decide, by decide, ?_⟩))
        intro M4 e4
        have h4 : cI M4 z := by rw [e4]; exact g.scr ((jsame.I (S := fun q => q = 73) rfl).mono (fun q hq => by unfold cScr; omega))
        have r73 : ∀ c, c < 25 → M4.1 73 c = nI (zT z c) := fun c hc => by rw [e4, jrI_s, va_cpy0 hc]; exact g.tw c hc
        clear e4
        obtain ⟨N, hN, _, B⟩ := h4.bs ho
        rw [nI_add]
        refine k_work B hN r73 h.t9 (by omega) (fun M5 g5 => ?_)
        obtain ⟨f1, f2, f3, _, _, _, _, _, f9⟩ := g5
        have h5 : cI M5 z := h4.scr (f1.mono (fun q hq => by unfold cScr; omega))
        refine k_firstUnlikeVillage atC5_30 h5.pl sC_73 (by decide) (by omega) (fun c hc => f3 c (by omega)) f9.1 (by omega) (fun M6 k1 k2 => ?_)
        have h6' : cI M6 z := h5.scr (k1.mono (fun q hq => by unfold cScr; omega))
        have hle : qUv (zP z) (rT (qRun (zP z) (zNw z).2.2 (seed + k) (zT z))) ≤ qn (zP z) := qFst_le _ _
        rw [nI_1]
        refine qAp_ne (by omega) (fun u => ih M6 _ ⟨h6', ?_⟩) (fun u => ih M6 _ ⟨h6', ?_⟩)
        · show _ + nI 0 = nI (qTal (zP z) (zNw z).2.2 seed (zT z) k + (if qUv (zP z) (rT (qRun (zP z) (zNw z).2.2 (seed + k) (zT z))) < qn (zP z) then 0 else 1))
          rw [if_pos u, nI_add]
        · show _ + nI 1 = nI (qTal (zP z) (zNw z).2.2 seed (zT z) k + (if qUv (zP z) (rT (qRun (zP z) (zNw z).2.2 (seed + k) (zT z))) < qn (zP z) then 0 else 1))
          rw [if_neg u, nI_add]
    · rw [decide_eq_false (show ¬ seed + many - 1 < 10000 by omega)]
      refine ⟨fun c => (by cases c), fun _ => no ?_⟩
      rw [decide_eq_false (by rw [t1, t2]; omega), Bool.and_false]
end BLT
