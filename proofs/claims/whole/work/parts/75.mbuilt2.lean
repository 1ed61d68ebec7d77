section MEX
variable {x : jX} {M0 : jM} {z : qZ} {N : Nat}
/-- the orders as both sides know them -/
def mBs (z : qZ) (N : Nat) : Prop := (zNw z).2.2.1 0 = 1 ∧ (zNw z).2.2.1 2 = nI N ∧ N ≤ 60 ∧ (zNw z).2.2.1 1 = nI (qStp (zNw z).2.2 N) ∧ qStp (zNw z).2.2 N ≤ 30 ∧ (∀ a, a < N → oAct (zP z) (zNw z).2.2 N a) ∧ oNest (zNw z).2.2 N
theorem mMs.step {M : jM} {s : qR} (h : mMs z M0 M s) (B : mBs z N) {a : Nat} (ha : a < N) (he : ¬ (zNw z).2.2.2 0 a = 16) : mStep (M.1 5) (zP z) (zNw z).2.2 a (171 + 8 * qStp (zNw z).2.2 a) := (h.or.2.2 B.1).2 N B.2.2.1 B.2.1 a ha he
theorem stp_next {o : qO} {a : Nat} (h : ¬ o.2 0 a = 16) : qStp o (a + 1) = qStp o a + 1 := by
  show qStp o a + (if o.2 0 a = 16 then 0 else 1) = _
  rw [if_neg h]
theorem stp_end {o : qO} {a : Nat} (h : o.2 0 a = 16) : qStp o (a + 1) = qStp o a := by
  show qStp o a + (if o.2 0 a = 16 then 0 else 1) = _
  rw [if_pos h, Nat.add_zero]
theorem m_plain {P : jM → Prop} {d a : Nat} {M : jM} {s : qR} (B : mBs z N) (ha : a < N) (h : mMs z M0 M (qInc s)) (hok : rOk s) (h4 : rS s < 400) (hO : rO s = false) (hp : oPlain (zP z) (zNw z).2.2 a) (hS : mStep (M.1 5) (zP z) (zNw z).2.2 a (171 + 8 * qStp (zNw z).2.2 a)) (hw : qStp (zNw z).2.2 a < 30) (hP : ∀ M', mMs z M0 M' (qDo (zP z) (zNw z).2.2 a (qInc s)) → P M') :
    ((M.1 5 (171 + 8 * qStp (zNw z).2.2 a)) = 0 → JW x jtbM mX12_doOne (d + 3) (jV P) 56 [(0, .ref (x.2.2.2 0)), (2, .int (nI (171 + 8 * qStp (zNw z).2.2 a))), (3, .int (M.1 5 (171 + 8 * qStp (zNw z).2.2 a)))] [] M) ∧ ((M.1 5 (171 + 8 * qStp (zNw z).2.2 a)) = 1 → JW x jtbM mX12_doOne (d + 3) (jV P) 56 [(0, .ref (x.2.2.2 0)), (2, .int (nI (171 + 8 * qStp (zNw z).2.2 a))), (3, .int (M.1 5 (171 + 8 * qStp (zNw z).2.2 a)))] [] M) ∧ ((M.1 5 (171 + 8 * qStp (zNw z).2.2 a)) = 2 → JW x jtbM mX12_doOne (d + 3) (jV P) 108 [(0, .ref (x.2.2.2 0)), (2, .int (nI (171 + 8 * qStp (zNw z).2.2 a))), (4, .int (0 : Int32))] [] M) ∧ ((M.1 5 (171 + 8 * qStp (zNw z).2.2 a)) = 5 → ∀ M4, M4 = jrI M 0 (upd (M.1 0) 50 (1 : Int32)) → P M4) := by
  have ok' := hok.plain h4 hp
  have hpl := h.pl
  have wf := hpl.wf
  have c25 := wf.c25
  generalize hW : 171 + 8 * qStp (zNw z).2.2 a = w at *
  have hw' : w + 8 ≤ 2060 := by omega
  have k0 : M.1 5 w = mKd ((zNw z).2.2.2 0 a) := hS.1
  unfold qDo at hP ok'
  rcases hp with ⟨q, ⟨c, hc, c2⟩, ⟨m, m1, m2, m3⟩⟩ | ⟨q, ⟨m, m1, m2, m3⟩⟩ | q
  · obtain ⟨⟨X, Y, hX, hY, g1, g2, g3⟩, g4⟩ := hS.2.1 q
    have ec : Y * qw (zP z) + X = c := by
      have w5 := wf.1
      have h5 := wf.2.1
      have : Y * qw (zP z) ≤ 5 * 5 := Nat.mul_le_mul (by omega) w5
      exact (nI_eq (by omega) (by omega)).mp (g1.symm.trans c2)
    have cell : ∀ {Q : jM → Int32 → Prop}, Q M (nI c) → JC x jtbM mX12_cellOf (d + 2) [.ref (x.2.2.2 0), .int (nI w)] M (jI Q) := fun hQ => m_cellOf hpl hw' hX hY g2 g3 (by rw [ec]; exact hQ)
    rcases q with q | q
    · rw [if_pos q, oN_of c2 (by omega), oN_of m3 (by omega)] at hP ok'
      have kk : M.1 5 w = 0 := by rw [k0, q]; rfl
      rw [kk]
      refine ⟨fun _ => b_X12_doOne_56 (cell ⟨fun u => absurd u (nI_pos (by omega)), fun _ => cell ⟨fun u => absurd rfl u, fun _ => ⟨w + 3, by omega, by rw [jn3, nI_add], ?_⟩⟩⟩), fun u => absurd u (by decide), fun u => absurd u (by decide), fun u => absurd u (by decide)⟩
      rw [g4, m3]
      exact m_changeUp h hc m1 m2 ok' hP
    · rw [if_neg (by rw [q]; decide), if_pos q, oN_of c2 (by omega), oN_of m3 (by omega)] at hP ok'
      have kk : M.1 5 w = 1 := by rw [k0, q]; rfl
      rw [kk]
      refine ⟨fun u => absurd u (by decide), fun _ => b_X12_doOne_56 (cell ⟨fun u => absurd u (nI_pos (by omega)), fun _ => cell ⟨fun _ => ⟨w + 3, by omega, by rw [jn3, nI_add], ?_⟩, fun u => absurd u (by decide)⟩⟩), fun u => absurd u (by decide), fun u => absurd u (by decide)⟩
      rw [g4, m3]
      exact m_changeDown rfl h hc m1 m2 ok' hP
  · have g4 : M.1 5 (w + 3) = nI m := by rw [hS.2.2.1 (Or.inl q), m3]
    rw [if_neg (by rw [q]; decide), if_neg (by rw [q]; decide), if_pos q, oN_of m3 (by omega)] at hP ok'
    have kk : M.1 5 w = 2 := by rw [k0, q]; rfl
    rw [kk]
    refine ⟨fun u => absurd u (by decide), fun u => absurd u (by decide), fun _ => ?_, fun u => absurd u (by decide)⟩
    by_cases c : qc (zP z) = 0
    · rw [if_pos c] at hP
      refine b_X12_doOne_108 ⟨w + 3, by omega, by rw [jn3, nI_add], ?_⟩
      rw [g4]
      refine pk_le m 0 (fun u => absurd u (by omega)) (fun _ => k_mCells hpl ?_)
      rw [c]
      exact ⟨fun _ => hP M h, fun u => absurd (show nI 0 ≤ (0 : Int32) by decide) u⟩
    · rw [if_neg c] at hP ok'
      have base := h.2.2.2.2.2.2.2.2
      refine jloop (fun i (M3 : jM) => JW x jtbM mX12_doOne (d + 3) (jV P) 108 [(0, .ref (x.2.2.2 0)), (2, .int (nI w)), (4, .int (nI i))] [] M3) (fun i M3 => mMs z M0 M3 (qRage (qc (zP z)) i (qInc s)) ∧ M3.1 5 (w + 3) = nI m) m ?_ ?_ 0 M (Nat.zero_le _) ⟨h, g4⟩
      · rintro M3 ⟨g, e3⟩
        refine b_X12_doOne_108 ⟨w + 3, by omega, by rw [jn3, nI_add], ?_⟩
        rw [e3]
        exact pk_le m m (fun _ => hP M3 g) (fun u => absurd u (by omega))
      · rintro i M3 hi ⟨g, e3⟩ ih
        obtain ⟨a1, a2, a3, a4, a5, a6, a7⟩ := qRage_all (qc (zP z)) (qInc s) base.1 base.2.1 i
        obtain ⟨b1, b2, b3, b4, b5, b6, b7⟩ := qRage_all (qc (zP z)) (qInc s) base.1 base.2.1 (i + 1)
        have c3 : rS (qInc s) = rS s + 1 := rfl
        have c4 : rL (qInc s) = rL s := rfl
        have c5 : rK (qInc s) = rK s := rfl
        obtain ⟨_, _, o3, o4, o5⟩ := hok
        have okn : rOk (qRage (qc (zP z)) (i + 1) (qInc s)) := ⟨b1, b2, by omega, by omega, by omega⟩
        refine b_X12_doOne_108 ⟨w + 3, by omega, by rw [jn3, nI_add], ?_⟩
        rw [e3]
        refine pk_le m i (fun u => absurd u (by omega)) (fun _ => k_mCells g.pl (pk_le (qc (zP z)) 0 (fun u => absurd u (by omega)) (fun _ => k_mCells g.pl ?_)))
        refine b_X12_draw ?_
        rw [g.2.2.1, jn2861, pk_mul, jn12007, nI_add, jn65536, pk_rem (by omega) (by omega) (by omega)]
        intro M4 e4
        have e5 : M4.1 0 42 = nI (rD (qDrw (qRage (qc (zP z)) i (qInc s)))) := by rw [e4, jrI_s, pk_us]; rfl
        have dl : rD (qDrw (qRage (qc (zP z)) i (qInc s))) < 65536 := (show (rD (qRage (qc (zP z)) i (qInc s)) * 2861 + 12007) % 65536 < 65536 from Nat.mod_lt _ (by omega))
        have h4 : mMs z M0 M4 (qDrw (qRage (qc (zP z)) i (qInc s))) := by
          obtain ⟨f1, f2, f3, f4, f5, f6, f7, f8, f9⟩ := g
          rw [e4]
          have okd : rOk (qDrw (qRage (qc (zP z)) i (qInc s))) := ⟨f9.1, dl, f9.2.2.1, f9.2.2.2.1, f9.2.2.2.2⟩
          have tt : rT (qDrw (qRage (qc (zP z)) i (qInc s))) = rT (qRage (qc (zP z)) i (qInc s)) := by simp only [qDrw]
          refine mMs.slot (s' := qDrw (qRage (qc (zP z)) i (qInc s))) (s := qRage (qc (zP z)) i (qInc s)) ⟨f1, f2, f3, f4, f5, f6, f7, f8, f9⟩ (by unfold mScI; omega) tt ?_ ?_ ?_ ?_ ?_ ?_ okd
          · rw [jrI_s, pk_us]; rfl
          · rw [jrI_s, pk_un (by omega)]; exact f4
          · rw [jrI_s, pk_un (by omega)]; exact f5
          · rw [jrI_s, pk_un (by omega)]; exact f6
          · rw [jrI_s, pk_un (by omega)]; exact f7
          · rw [jrI_s, pk_un (by omega)]; exact f8
        have w3 : M4.1 5 (w + 3) = nI m := by rw [e4, jrI_n (by omega)]; exact e3
        rw [e5, jn8, pk_div (by omega) (by omega) (by omega), pk_rem (by omega) (by omega) (by omega)]
        clear e4
        have cl : rD (qDrw (qRage (qc (zP z)) i (qInc s))) / 8 % qc (zP z) < qc (zP z) := Nat.mod_lt _ (by omega)
        refine ⟨nI_ne0 (by omega) (by omega), ?_⟩
        refine m_changeDown (m := 1) (by decide) h4 cl (by omega) (by omega) okn (fun M5 h5 => ?_)
        rw [nI_1]
        refine ih M5 ⟨h5, ?_⟩
        have st5 := h5.step B ha (by rw [q]; decide)
        rw [hW] at st5
        rw [st5.2.2.1 (Or.inl q), m3]
  · rw [if_neg (by rw [q]; decide), if_neg (by rw [q]; decide), if_neg (by rw [q]; decide)] at hP ok'
    have kk : M.1 5 w = 5 := by rw [k0, q]; rfl
    rw [kk]
    refine ⟨fun u => absurd u (by decide), fun u => absurd u (by decide), fun u => absurd u (by decide), fun _ => ?_⟩
    intro M4 e4
    refine hP M4 ?_
    obtain ⟨f1, f2, f3, f4, f5, f6, f7, f8, f9⟩ := id h
    rw [e4]
    refine mMs.slot (s' := qOver (qInc s) (rF (qInc s))) h (by unfold mScI; omega) rfl ?_ ?_ ?_ ?_ ?_ ?_ ok'
    · rw [jrI_s, pk_un (by omega)]; exact f3
    · rw [jrI_s, pk_un (by omega)]; exact f4
    · rw [jrI_s, pk_un (by omega)]; exact f5
    · rw [jrI_s, pk_un (by omega)]; exact f6
    · rw [jrI_s, pk_un (by omega)]; exact f7
    · rw [jrI_s, pk_us]; rfl
def qItem (pl : qP) (o : qO) (n a : Nat) (s : qR) : qR := if rS s = 400 then qOver s 1 else
    if o.2 0 a = 10 then (if qIsSo pl o a (rT s) then qExec pl o n (a + 1) (oN o 6 a) (qInc s) else qInc s)
    else if o.2 0 a = 15 then qIt (qExec pl o n (a + 1) (oN o 6 a)) (oN o 5 a) (qInc s)
    else qDo pl o a (qInc s)
theorem exec_item {pl : qP} {o : qO} {n a e : Nat} {s : qR} (hO : rO s = false) (h : a < e) : qExec pl o (n + 1) a e s = qExec pl o n (if o.2 0 a = 10 ∨ o.2 0 a = 15 then oN o 6 a + 1 else a + 1) e (qItem pl o n a s) := by
  rw [qExec, if_neg (fun c => c.elim (fun c => by rw [hO] at c; cases c) (by omega))]
  unfold qItem
  by_cases h4 : rS s = 400
  · rw [if_pos h4, if_pos h4, exec_over rfl]
  · rw [if_neg h4, if_neg h4]
    by_cases h10 : o.2 0 a = 10
    · rw [if_pos h10, if_pos h10, if_pos (Or.inl h10)]
    · rw [if_neg h10, if_neg h10]
      by_cases h15 : o.2 0 a = 15
      · rw [if_pos h15, if_pos h15, if_pos (Or.inr h15)]
      · rw [if_neg h15, if_neg h15, if_neg (fun c => c.elim h10 h15)]
theorem m_one {P : jM → Prop} {E n a e : Nat} {s : qR} {M : jM} (B : mBs z N) (hb : qBk (zNw z).2.2 N a e) (hl : a < e) (hn : e - a ≤ n + 1) (hM : mMs z M0 M s) (hO : rO s = false)
    (hI : ∀ {P' : jM → Prop} a' e' s' M', e' - a' ≤ n → qBk (zNw z).2.2 N a' e' → mMs z M0 M' s' → (∀ M'', mMs z M0 M'' (qExec (zP z) (zNw z).2.2 n a' e' s') → P' M'') → JW x jtbM mX12_doAll (E + 6) (jV P') 2 [(0, .ref (x.2.2.2 0)), (2, .int (nI (qStp (zNw z).2.2 e'))), (3, .int (nI (qStp (zNw z).2.2 a')))] [] M')
    (hP : ∀ M', mMs z M0 M' (qItem (zP z) (zNw z).2.2 n a s) → P M') : JC x jtbM mX12_doOne (E + 7) [.ref (x.2.2.2 0), .int (nI (qStp (zNw z).2.2 a))] M (jV P) := by
  obtain ⟨B1, B2, hN60, B4, hS30, hA, hNs⟩ := id B
  have hne := hb.noEnd hl
  have haN : a < N := by have := hb.2.1; omega
  have lt_e : qStp (zNw z).2.2 a < qStp (zNw z).2.2 e := qStp_lt hl hne
  have le_e : qStp (zNw z).2.2 e ≤ qStp (zNw z).2.2 N := qStp_mono _ hb.2.1
  have ok := hM.2.2.2.2.2.2.2.2
  have S4 := ok.2.2.1
  have eW : (171 : Int32) + (8 : Int32) * nI (qStp (zNw z).2.2 a) = nI (171 + 8 * qStp (zNw z).2.2 a) := by rw [jn8, pk_mul, jn171, nI_add]
  unfold qItem at hP
  refine b_X12_doOne ?_
  rw [hM.2.2.2.1, jn400, nI_eq (by omega) (by omega), eW]
  refine ⟨fun h4 => ?_, fun h4 => ?_⟩
  · rw [if_neg h4] at hP
    have hs4 : rS s < 400 := by omega
    intro M1 e1
    rw [nI_1] at e1
    have h1 : mMs z M0 M1 (qInc s) := by
      obtain ⟨f1, f2, f3, f4, f5, f6, f7, f8, f9⟩ := id hM
      rw [e1]
      refine mMs.slot (s' := qInc s) hM (by unfold mScI; omega) rfl ?_ ?_ ?_ ?_ ?_ ?_ (ok.inc hs4)
      · rw [jrI_s, pk_un (by omega)]; exact f3
      · rw [jrI_s, pk_us]; rfl
      · rw [jrI_s, pk_un (by omega)]; exact f5
      · rw [jrI_s, pk_un (by omega)]; exact f6
      · rw [jrI_s, pk_un (by omega)]; exact f7
      · rw [jrI_s, pk_un (by omega)]; exact f8
    clear e1
    have hS1 := h1.step B haN hne
    refine ⟨171 + 8 * qStp (zNw z).2.2 a, by omega, rfl, ?_⟩
    by_cases hop : (zNw z).2.2.2 0 a = 10 ∨ (zNw z).2.2.2 0 a = 15
    · obtain ⟨m, m1, m2, m3, m4, m5, m6, m7, m8⟩ := bk_open hN60 hA hNs hb hl hop
      rw [m4] at hP
      have m60 : m < 60 := by have := hb.2.1; omega
      have c7 : ∀ (M3 : jM) (s3 : qR), mMs z M0 M3 s3 → M3.1 5 (171 + 8 * qStp (zNw z).2.2 a + 7) = nI (qStp (zNw z).2.2 m) := fun M3 s3 h3 => (h3.step B haN hne).2.2.2.2.2 hop m m3 m60
      have inner : ∀ {P' : jM → Prop} (s3 : qR) (M3 : jM), mMs z M0 M3 s3 → (∀ M', mMs z M0 M' (qExec (zP z) (zNw z).2.2 n (a + 1) m s3) → P' M') → JC x jtbM mX12_doAll (E + 6) [.ref (x.2.2.2 0), .int (nI (qStp (zNw z).2.2 a) + (1 : Int32)), .int (nI (qStp (zNw z).2.2 m))] M3 (jV P') := fun s3 M3 h3 hP' => by
        rw [nI_1, ← stp_next hne]
        exact b_X12_doAll (hI (a + 1) m s3 M3 (by omega) m7 h3 hP')
      rcases hop with h10 | h15
      · rw [if_pos h10] at hP
        have kk : M1.1 5 (171 + 8 * qStp (zNw z).2.2 a) = 3 := by rw [hS1.1, h10]; rfl
        rw [kk]
        refine ⟨fun u => absurd u (by decide), fun _ => ⟨fun _ => ⟨fun _ => ⟨fun _ => ⟨fun u => absurd rfl u, fun _ => ?_⟩, fun u => absurd u (by decide)⟩, fun u => absurd u (by decide)⟩, fun u => absurd u (by decide)⟩⟩
        refine m_isSo (t := rT s) h1.pl h1.tn (by omega) hS1 h10 (act_when (hA a haN) h10) ⟨fun c => ?_, fun c => ⟨171 + 8 * qStp (zNw z).2.2 a + 7, by omega, by rw [jn7, nI_add], ?_⟩⟩
        · rw [if_neg (by rw [c]; decide)] at hP
          exact hP M1 h1
        · rw [if_pos c] at hP
          rw [c7 M1 _ h1]
          exact inner (qInc s) M1 h1 hP
      · rw [if_neg (by rw [h15]; decide), if_pos h15] at hP
        obtain ⟨num, n1, n2, n3⟩ := act_loop (hA a haN) h15
        rw [oN_of n3 (by omega)] at hP
        have kk : M1.1 5 (171 + 8 * qStp (zNw z).2.2 a) = 4 := by rw [hS1.1, h15]; rfl
        rw [kk]
        refine ⟨fun u => absurd u (by decide), fun _ => ⟨fun _ => ⟨fun _ => ⟨fun _ => ⟨fun _ => ?_, fun u => absurd u (by decide)⟩, fun u => absurd u (by decide)⟩, fun u => absurd u (by decide)⟩, fun u => absurd u (by decide)⟩⟩
        have c3 : ∀ (M3 : jM) (s3 : qR), mMs z M0 M3 s3 → M3.1 5 (171 + 8 * qStp (zNw z).2.2 a + 3) = nI num := fun M3 s3 h3 => by rw [(h3.step B haN hne).2.2.1 (Or.inr h15), n3]
        refine jloop2 (fun i (M3 : jM) (s3 : qR) => JW x jtbM mX12_doOne (E + 7) (jV P) 198 [(0, .ref (x.2.2.2 0)), (1, .int (nI (qStp (zNw z).2.2 a))), (2, .int (nI (171 + 8 * qStp (zNw z).2.2 a))), (4, .int (nI i))] [] M3) (fun i M3 s3 => mMs z M0 M3 s3 ∧ qIt (qExec (zP z) (zNw z).2.2 n (a + 1) m) (num - i) s3 = qIt (qExec (zP z) (zNw z).2.2 n (a + 1) m) num (qInc s)) num ?_ ?_ 0 M1 (qInc s) (Nat.zero_le _) ⟨h1, rfl⟩
        · rintro M3 s3 ⟨h3, e3⟩
          refine b_X12_doOne_198 ⟨171 + 8 * qStp (zNw z).2.2 a + 3, by omega, by rw [jn3, nI_add], ?_⟩
          rw [c3 M3 s3 h3]
          refine pk_le num num (fun _ => hP M3 ?_) (fun u => absurd u (by omega))
          rw [Nat.sub_self] at e3
          rw [← e3]
          exact h3
        · rintro i M3 s3 hi ⟨h3, e3⟩ ih
          refine b_X12_doOne_198 ⟨171 + 8 * qStp (zNw z).2.2 a + 3, by omega, by rw [jn3, nI_add], ?_⟩
          rw [c3 M3 s3 h3]
          refine pk_le num i (fun u => absurd u (by omega)) (fun _ => ?_)
          rw [h3.2.2.2.2.2.2.2.1, jb_0]
          refine ⟨fun u => hP M3 ?_, fun u => ⟨171 + 8 * qStp (zNw z).2.2 a + 7, by omega, by rw [jn7, nI_add], ?_⟩⟩
          · have ov : rO s3 = true := by revert u; cases rO s3 <;> simp
            rw [← e3, qIt_over (fun s hs => exec_over hs) _ _ ov]
            exact h3
          · rw [c7 M3 s3 h3, nI_1 i]
            refine inner s3 M3 h3 (fun M4 h4 => ih M4 _ ⟨h4, ?_⟩)
            rw [← e3, show num - i = (num - (i + 1)) + 1 by omega]
            rfl
    · rw [if_neg (fun c => hop (Or.inl c)), if_neg (fun c => hop (Or.inr c))] at hP
      have pln := act_plain (hA a haN) hop hne
      obtain ⟨p0, p1, p2, p5⟩ := m_plain (x := x) (d := E + 4) B haN h1 ok hs4 hO pln hS1 (by omega) hP
      refine ⟨fun u => p0 u, fun v0 => ⟨fun v1 => ⟨fun v2 => ⟨fun u5 => ⟨fun u3 => ?_, fun u3 => ?_⟩, fun u => p5 u⟩, fun u => p2 u⟩, fun u => p1 u⟩⟩
      · exfalso
        have k0 := hS1.1
        rcases pln with ⟨q, _⟩ | ⟨q, _⟩ | q
        · rcases q with q | q
          · rw [q] at k0; exact v0 k0
          · rw [q] at k0; exact v1 k0
        · rw [q] at k0; exact v2 k0
        · rw [q] at k0; exact u5 k0
      · exfalso
        have k0 := hS1.1
        rw [u3] at k0
        rcases pln with ⟨q, _⟩ | ⟨q, _⟩ | q
        · rcases q with q | q <;> rw [q] at k0 <;> exact absurd k0 (by decide)
        · rw [q] at k0; exact absurd k0 (by decide)
        · rw [q] at k0; exact absurd k0 (by decide)
  · rw [if_pos h4] at hP
    intro M5 e5 M6 e6
    refine hP M6 ?_
    obtain ⟨f1, f2, f3, f4, f5, f6, f7, f8, f9⟩ := id hM
    rw [e6, e5]
    refine ⟨(f1.keep (mSame.slot (by unfold mScI; omega))).keep (mSame.slot (by unfold mScI; omega)), (f2.tr (jsame.I (Or.inl rfl))).tr (jsame.I (Or.inl rfl)), ?_, ?_, ?_, ?_, ?_, ?_, ok⟩
    · simp (disch := omega) only [jrI_s, pk_us, pk_un]; exact f3
    · simp (disch := omega) only [jrI_s, pk_us, pk_un]; rw [f4]; rfl
    · simp (disch := omega) only [jrI_s, pk_us, pk_un]; exact f5
    · simp (disch := omega) only [jrI_s, pk_us, pk_un]; exact f6
    · simp (disch := omega) only [jrI_s, pk_us, pk_un]; rfl
    · simp (disch := omega) only [jrI_s, pk_us, pk_un]; rfl
theorem m_exec (B : mBs z N) : ∀ n {D : Nat} {P : jM → Prop} a e s M, 2 * n ≤ D → e - a ≤ n → qBk (zNw z).2.2 N a e → mMs z M0 M s → (∀ M', mMs z M0 M' (qExec (zP z) (zNw z).2.2 n a e s) → P M') →
    JW x jtbM mX12_doAll (D + 6) (jV P) 2 [(0, .ref (x.2.2.2 0)), (2, .int (nI (qStp (zNw z).2.2 e))), (3, .int (nI (qStp (zNw z).2.2 a)))] [] M := by
  obtain ⟨B1, B2, hN60, B4, hS30, hA, hNs⟩ := id B
  intro n
  induction n with
  | zero =>
    intro D P a e s M _ hn hb hM hP
    obtain rfl : a = e := by have := hb.1; omega
    have l1 : qStp (zNw z).2.2 a ≤ qStp (zNw z).2.2 N := qStp_mono _ hb.2.1
    exact b_X12_doAll_2 (pk_le (qStp (zNw z).2.2 a) (qStp (zNw z).2.2 a) (fun _ => hP M hM) (fun c => absurd c (by omega)))
  | succ n ih =>
    intro D P a e s M hD hn hb hM hP
    obtain ⟨E, rfl⟩ : ∃ E, D = E + 2 := ⟨D - 2, by omega⟩
    have le_e : qStp (zNw z).2.2 e ≤ qStp (zNw z).2.2 N := qStp_mono _ hb.2.1
    by_cases hae : e ≤ a
    · obtain rfl : a = e := by have := hb.1; omega
      rw [qExec, if_pos (Or.inr hae)] at hP
      exact b_X12_doAll_2 (pk_le (qStp (zNw z).2.2 a) (qStp (zNw z).2.2 a) (fun _ => hP M hM) (fun c => absurd c (by omega)))
    · have hl : a < e := by omega
      have hne := hb.noEnd hl
      have lt_e : qStp (zNw z).2.2 a < qStp (zNw z).2.2 e := qStp_lt hl hne
      have haN : a < N := by have := hb.2.1; omega
      refine b_X12_doAll_2 (d := E + 7) (pk_le (qStp (zNw z).2.2 e) (qStp (zNw z).2.2 a) (fun c => absurd c (by omega)) (fun _ => ?_))
      rw [hM.2.2.2.2.2.2.2.1, jb_0]
      cases hO : rO s with
      | true =>
        rw [exec_over hO] at hP
        exact ⟨fun _ => hP M hM, fun c => (by cases c)⟩
      | false =>
        rw [exec_item hO hl] at hP
        refine ⟨fun c => absurd rfl c, fun _ => m_one B hb hl hn hM hO (fun a' e' s' M' g1 g2 g3 g4 => ih (D := E) a' e' s' M' (by omega) g1 g2 g3 g4) (fun M1 h1 => ⟨171 + 8 * qStp (zNw z).2.2 a + 7, by omega, by rw [jn8, pk_mul, jn171, nI_add, jn7, nI_add], ?_⟩)⟩
        have hS1 := h1.step B haN hne
        by_cases hop : (zNw z).2.2.2 0 a = 10 ∨ (zNw z).2.2.2 0 a = 15
        · obtain ⟨m, m1, m2, m3, m4, m5, m6, m7, m8⟩ := bk_open hN60 hA hNs hb hl hop
          rw [if_pos hop, m4] at hP
          rw [hS1.2.2.2.2.2 hop m m3 (by have := hb.2.1; omega), ← stp_end m5]
          exact ih (D := E + 2) (m + 1) e _ M1 (by omega) (by omega) m8 h1 hP
        · rw [if_neg hop] at hP
          rw [hS1.2.2.2.2.1 hop, ← stp_next hne]
          exact ih (D := E + 2) (a + 1) e _ M1 (by omega) (by omega) (bk_next hN60 hA hb hl hop) h1 hP
end MEX
