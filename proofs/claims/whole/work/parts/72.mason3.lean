section CEX
variable {x : jX} {d : Nat} {M M0 : jM} {pl : qP} {o : qO} {p N n0 : Nat}
/-- what the class's Mason stands on -/
def cBs (M0 : jM) (pl : qP) (o : qO) (p N n0 : Nat) : Prop := cPl M0 30 pl ∧ M0.1 40 2 = nI N ∧ N ≤ 60 ∧ (∀ a, a < N → ∀ r, r < 7 → M0.1 (41 + r) a = o.2 r a) ∧ js jtbC p = (20, n0) ∧ n0 < 2 ^ 31 ∧ 25 ≤ n0 ∧ (p = 39 ∨ p = 73) ∧ (∀ a, a < N → oAct pl o N a) ∧ oNest o N
theorem cBs.row {s : qR} (B : cBs M0 pl o p N n0) (h : cMs M0 p M s) : cPl M 30 pl ∧ M.1 40 2 = nI N ∧ ∀ a, a < N → ∀ r, r < 7 → M.1 (41 + r) a = o.2 r a := by
  obtain ⟨b1, b2, b3, b4, b5, b6, b7, b8, b9, b10⟩ := B
  obtain ⟨g1, g2, _⟩ := h
  exact ⟨b1.keep (fun q q1 q2 => (g1 q (by omega)).1) (by rw [g2]), by rw [(g1 40 (by omega)).1]; exact b2, fun a ha r hr => by rw [(g1 (41 + r) (by omega)).1]; exact b4 a ha r hr⟩
theorem c_plain {P : jM → Int32 → Prop} {s : qR} {a : Nat} (B : cBs M0 pl o p N n0) (h : cMs M0 p M (qInc s)) (hok : rOk s) (h4 : rS s < 400) (ha : a < N) (hp : oPlain pl o a) (hP : ∀ M', cMs M0 p M' (qDo pl o a (qInc s)) → M'.1 71 = M.1 71 → P M' (if o.2 0 a = 17 then nI N else nI (a + 1))) : JC x jtbC mX2_behindStep (d + 3) [.ref (x.2.2.2 70), .ref (x.2.2.2 40), .ref (x.2.2.2 30), .ref (x.2.2.2 p), .int (nI a)] M (jI P) := by
  obtain ⟨r1, r2, r3⟩ := B.row h
  obtain ⟨b1, b2, b3, b4, b5, b6, b7, b8, b9, b10⟩ := B
  have c25 := b1.wf.c25
  have ok' := hok.plain h4 hp
  have e0 : M.1 41 a = o.2 0 a := r3 a ha 0 (by omega)
  have e2 : M.1 43 a = o.2 2 a := r3 a ha 2 (by omega)
  have e5 : M.1 46 a = o.2 5 a := r3 a ha 5 (by omega)
  obtain ⟨g1, g2, g3, g4, g5, g6, g7, g8, g9⟩ := h
  refine b_X2_behindStep ⟨a, by omega, rfl, ?_⟩
  rw [e0, e2, e5, r2, r1.c, nI_1]
  unfold qDo at hP ok'
  rcases hp with ⟨q, ⟨c, hc, c2⟩, ⟨m, m1, m2, m3⟩⟩ | ⟨q, ⟨m, m1, m2, m3⟩⟩ | q
  · rcases q with q | q
    · rw [if_pos q, oN_of c2 (by omega), oN_of m3 (by omega)] at hP ok'
      rw [q] at hP ⊢
      simp (decide := true) only [forall_const, true_and, and_true, not_true_eq_false, not_false_eq_true, false_implies, true_implies, implies_true]
      rw [c2]
      refine k_hasCell atC5_30 r1 ?_
      rw [qin_nI (by omega), decide_eq_true hc]
      refine ⟨fun u => (by cases u), fun _ => ?_⟩
      rw [e5, m3]
      refine k_lay2 (s := qInc s) b5 b6 b7 (by omega) (by omega) (by omega) g3 g9.1 g5 (fun M' k1 k2 k3 k4 k5 => ?_)
      exact hP M' ⟨g1.tr (k1.mono (fun q hq => by omega)), by rw [k2, g2], k3, by rw [k4 0 (by omega)]; exact g4, k5, by rw [k4 2 (by omega)]; exact g6, by rw [k4 3 (by omega)]; exact g7, by rw [k4 5 (by omega)]; exact g8, ok'⟩ (k1 71 (by omega)).1
    · rw [if_neg (by rw [q]; decide), if_pos q, oN_of c2 (by omega), oN_of m3 (by omega)] at hP ok'
      rw [q] at hP ⊢
      simp (decide := true) only [forall_const, true_and, and_true, not_true_eq_false, not_false_eq_true, false_implies, true_implies, implies_true]
      rw [c2]
      refine k_hasCell atC5_30 r1 ?_
      rw [qin_nI (by omega), decide_eq_true hc]
      refine ⟨fun u => (by cases u), fun _ => ?_⟩
      rw [e5, m3]
      refine k_take (s := qInc s) b5 b6 b7 (by omega) (by omega) (by omega) g3 g9.1 g6 (fun M' k1 k2 k3 k4 k5 => ?_)
      exact hP M' ⟨g1.tr (k1.mono (fun q hq => by omega)), by rw [k2, g2], k3, by rw [k4 0 (by omega)]; exact g4, by rw [k4 1 (by omega)]; exact g5, k5, by rw [k4 3 (by omega)]; exact g7, by rw [k4 5 (by omega)]; exact g8, ok'⟩ (k1 71 (by omega)).1
  · rw [if_neg (by rw [q]; decide), if_neg (by rw [q]; decide), if_pos q, oN_of m3 (by omega)] at hP ok'
    rw [q] at hP ⊢
    simp (decide := true) only [forall_const, true_and, and_true, not_true_eq_false, not_false_eq_true, false_implies, true_implies, implies_true]
    rw [m3]
    by_cases c : qc pl = 0
    · rw [if_pos c] at hP
      rw [c]
      exact b_X2_rage ⟨fun u => absurd u (by decide), fun _ => hP M ⟨g1, g2, g3, g4, g5, g6, g7, g8, g9⟩ rfl⟩
    · rw [if_neg c] at hP ok'
      have al := qRage_all (qc pl) (qInc s) g9.1 g9.2.1 m
      refine k_rage (s := qInc s) b5 b6 b7 (by omega) c25 (by omega) m2 g3 g9.1 g9.2.1 g6 g8 (fun M' k1 k2 k3 k4 k5 k6 => ?_)
      exact hP M' ⟨g1.tr (k1.mono (fun q hq => by omega)), by rw [k2, g2], k3, by rw [k4 0 (by omega) (by omega), g4, al.2.2.1], by rw [k4 1 (by omega) (by omega), g5, al.2.2.2.1], k5, by rw [k4 3 (by omega) (by omega), g7, al.2.2.2.2.2.2], k6, ok'⟩ (k1 71 (by omega)).1
  · rw [if_neg (by rw [q]; decide), if_neg (by rw [q]; decide), if_neg (by rw [q]; decide)] at hP ok'
    rw [q] at hP ⊢
    simp (decide := true) only [forall_const, true_and, and_true, not_true_eq_false, not_false_eq_true, false_implies, true_implies, implies_true]
    exact hP M ⟨g1, g2, g3, g4, g5, g6, g7, g8, ok'⟩ rfl
theorem cMs.over {s : qR} (h : cMs M0 p M s) (l : Nat) (hl : M.1 70 3 = nI l) : cMs M0 p M (qOver s l) := by
  obtain ⟨g1, g2, g3, g4, g5, g6, g7, g8, g9⟩ := h
  exact ⟨g1, g2, g3, g4, g5, g6, hl, g8, g9⟩
theorem qDo_over {a : Nat} {s : qR} : rO (qDo pl o a (qInc s)) = (if o.2 0 a = 6 ∨ o.2 0 a = 7 ∨ o.2 0 a = 9 then rO s else true) := by
  unfold qDo
  by_cases h6 : o.2 0 a = 6
  · rw [if_pos h6, if_pos (Or.inl h6)]; rfl
  · rw [if_neg h6]
    by_cases h7 : o.2 0 a = 7
    · rw [if_pos h7, if_pos (Or.inr (Or.inl h7))]; rfl
    · rw [if_neg h7]
      by_cases h9 : o.2 0 a = 9
      · rw [if_pos h9, if_pos (Or.inr (Or.inr h9))]
        split
        · rfl
        · have : ∀ k, rO (qRage (qc pl) k (qInc s)) = rO s := fun k => by
            induction k with
            | zero => rfl
            | succ k ih => rw [qRage]; exact ih
          exact this _
      · rw [if_neg h9, if_neg (by intro c; rcases c with c | c | c; exact h6 c; exact h7 c; exact h9 c)]; rfl
theorem c_exec {P : jM → Prop} (B : cBs M0 pl o p N n0) : ∀ n a e s M turn Q, e - a ≤ n → qBk o N a e → cMs M0 p M s → rO s = false → turn + Q ≤ 101 * rS s →
    (∀ M' turn', rO (qExec pl o n a e s) = false → cMs M0 p M' (qExec pl o n a e s) → turn' + Q ≤ 101 * rS (qExec pl o n a e s) → (∀ j, (j < a ∨ e ≤ j) → M'.1 71 j = M.1 71 j) → JW x jtbC mX2_work (d + 5) (jV P) 32 [(0, .ref (x.2.2.2 70)), (1, .ref (x.2.2.2 40)), (2, .ref (x.2.2.2 30)), (3, .ref (x.2.2.2 p)), (5, .int (nI e)), (6, .int (nI turn'))] [] M') →
    (∀ M', rO (qExec pl o n a e s) = true → cMs M0 p M' (qExec pl o n a e s) → P M') →
    JW x jtbC mX2_work (d + 5) (jV P) 32 [(0, .ref (x.2.2.2 70)), (1, .ref (x.2.2.2 40)), (2, .ref (x.2.2.2 30)), (3, .ref (x.2.2.2 p)), (5, .int (nI a)), (6, .int (nI turn))] [] M := by
  intro n
  have hN60 := B.2.2.1
  have hA := B.2.2.2.2.2.2.2.2.1
  have hNs := B.2.2.2.2.2.2.2.2.2
  induction n with
  | zero =>
    intro a e s M turn Q hn hb hM hO hT hgo hend
    obtain rfl : a = e := by have := hb.1; omega
    exact hgo M turn hO hM hT (fun _ _ => rfl)
  | succ n ih =>
    intro a e s M turn Q hn hb hM hO hT hgo hend
    rw [qExec] at hgo hend
    by_cases hae : e ≤ a
    · obtain rfl : a = e := by have := hb.1; omega
      rw [if_pos (Or.inr hae)] at hgo
      exact hgo M turn hO hM hT (fun _ _ => rfl)
    · have hl : a < e := by omega
      rw [if_neg (fun c => c.elim (fun c => by rw [hO] at c; cases c) hae)] at hgo hend
      obtain ⟨r1, r2, r3⟩ := B.row hM
      have ok := hM.2.2.2.2.2.2.2.2
      have S4 := ok.2.2.1
      have haN : a < N := by have := hb.2.1; omega
      have e0 : M.1 41 a = o.2 0 a := r3 a haN 0 (by omega)
      have s0 : M.1 70 0 = nI (rS s) := hM.2.2.2.1
      refine b_X2_work_32 (pk_le 1000000 turn (fun c => absurd c (by omega)) (fun _ => ?_))
      rw [r2]
      refine pk_le N a (fun c => absurd c (by omega)) (fun _ => ⟨a, by omega, rfl, ?_⟩)
      rw [e0, s0]
      refine ⟨fun hne => ?_, fun c => absurd c (hb.noEnd hl)⟩
      by_cases hs : rS s = 400
      · rw [if_pos hs] at hend
        rw [hs]
        refine ⟨fun c => absurd c (by decide), fun _ => ?_⟩
        intro M3 e3
        refine hend M3 rfl ?_
        obtain ⟨g1, g2, g3, g4, g5, g6, g7, g8, g9⟩ := hM
        have pne : p ≠ 70 := by have := B.2.2.2.2.2.2.2.1; omega
        rw [e3]
        exact ⟨g1.tr (jsame.I (Or.inr (Or.inr (Or.inl rfl)))), g2, fun c hc => by rw [jrI_n pne]; exact g3 c hc, by rw [jrI_s, pk_un (by omega)]; exact g4, by rw [jrI_s, pk_un (by omega)]; exact g5, by rw [jrI_s, pk_un (by omega)]; exact g6, by rw [jrI_s, pk_us]; rfl, by rw [jrI_s, pk_un (by omega)]; exact g8, g9⟩
      · rw [if_neg hs] at hgo hend
        refine pk_lt (rS s) 400 (fun _ => ?_) (fun c => absurd c (by omega))
        intro M1 e1
        have pne : p ≠ 70 := by have := B.2.2.2.2.2.2.2.1; omega
        have h1 : cMs M0 p M1 (qInc s) := by
          obtain ⟨g1, g2, g3, g4, g5, g6, g7, g8, g9⟩ := hM
          rw [e1]
          exact ⟨g1.tr (jsame.I (Or.inr (Or.inr (Or.inl rfl)))), g2, fun c hc => by rw [jrI_n pne]; exact g3 c hc, by rw [jrI_s, pk_us, nI_1]; rfl, by rw [jrI_s, pk_un (by omega)]; exact g5, by rw [jrI_s, pk_un (by omega)]; exact g6, by rw [jrI_s, pk_un (by omega)]; exact g7, by rw [jrI_s, pk_un (by omega)]; exact g8, g9.inc (by omega)⟩
        have r71 : M1.1 71 = M.1 71 := by rw [e1, jrI_n (by omega)]
        clear e1
        rw [nI_1]
        have iO : rO (qInc s) = false := hO
        have iS : rS (qInc s) = rS s + 1 := rfl
        obtain ⟨q1, q2, q3⟩ := B.row h1
        have f0 : M1.1 41 a = o.2 0 a := q3 a haN 0 (by omega)
        by_cases hop : o.2 0 a = 10 ∨ o.2 0 a = 15
        · obtain ⟨m, m1, m2, m3, m4, m5, m6, m7, m8⟩ := bk_open hN60 hA hNs hb hl hop
          rw [m4] at hgo hend
          have hmN : m < N := by have := hb.2.1; omega
          rcases hop with ho | ho
          · rw [if_pos ho] at hgo hend
            -- a test
            refine b_X2_behindStep ⟨a, by omega, rfl, ?_⟩
            rw [f0, ho]
            simp (decide := true) only [forall_const, true_and, and_true, not_true_eq_false, not_false_eq_true, false_implies, true_implies, implies_true]
            obtain ⟨b1, b2, b3, b4, b5, b6, b7, b8, b9, b10⟩ := id B
            refine k_isSo (t := rT s) b5 b6 b7 (by omega) q1 (by omega) (fun r hr => q3 a haN r hr) (act_when (hA a haN) ho) h1.2.2.1 ok.1 (fun M2 k1 k2 => ?_)
            have h2 : cMs M0 p M2 (qInc s) := by
              obtain ⟨g1, g2, g3, g4, g5, g6, g7, g8, g9⟩ := h1
              have p38 : ¬ p = 38 := by omega
              refine ⟨g1.tr (k1.mono (fun q hq => Or.inr (Or.inl hq))), by rw [k2, g2], fun c hc => by rw [(k1 p p38).1]; exact g3 c hc, ?_, ?_, ?_, ?_, ?_, g9⟩ <;> rw [(k1 70 (by omega)).1] <;> assumption
            have s71 : M2.1 71 = M.1 71 := by rw [(k1 71 (by omega)).1, r71]
            have e6 : M2.1 47 a = nI m := by rw [(B.row h2).2.2 a haN 6 (by omega), m3]
            refine ⟨fun c => ?_, fun c => ?_⟩
            · rw [if_neg (by rw [c]; decide)] at hgo hend
              rw [e6, nI_1]
              refine ih (m + 1) e (qInc s) M2 (turn + 1) Q (by omega) m8 h2 iO (by omega) (fun M' t' u1 u2 u3 u4 => hgo M' t' u1 u2 u3 (fun j hj => by rw [u4 j (by omega), s71])) hend
            · rw [if_pos c] at hgo hend
              rw [nI_1]
              refine ih (a + 1) m (qInc s) M2 (turn + 1) (Q + 1) (by omega) m7 h2 iO (by omega) (fun M' t' u1 u2 u3 u4 => ?_) (fun M' u1 u2 => ?_)
              · -- the end of the block
                obtain ⟨v1, v2, v3⟩ := B.row u2
                have S4' := u2.2.2.2.2.2.2.2.2.2.2.1
                refine b_X2_work_32 (pk_le 1000000 t' (fun c => absurd c (by omega)) (fun _ => ?_))
                rw [v2]
                refine pk_le N m (fun c => absurd c (by omega)) (fun _ => ⟨m, by omega, rfl, ?_⟩)
                rw [show M'.1 41 m = _ from v3 m hmN 0 (by omega), m5]
                refine ⟨fun c => absurd rfl c, fun _ => b_X2_behindEnd ⟨m, by omega, rfl, a, by omega, by rw [show M'.1 47 m = _ from v3 m hmN 6 (by omega), m6], ?_⟩⟩
                rw [show M'.1 41 a = _ from v3 a haN 0 (by omega), ho, nI_1, nI_1]
                refine ⟨fun _ => ?_, fun c => absurd c (by decide)⟩
                refine ih (m + 1) e _ M' (t' + 1) Q (by omega) m8 u2 u1 (by omega) (fun M3 t3 w1 w2 w3 w4 => hgo M3 t3 w1 w2 w3 (fun j hj => by rw [w4 j (by omega), u4 j (by omega), s71])) hend
              · rw [exec_over u1] at hend
                exact hend M' u1 u2
          · rw [if_neg (by rw [ho]; decide), if_pos ho] at hgo hend
            obtain ⟨num, n1, n2, n3⟩ := act_loop (hA a haN) ho
            rw [oN_of n3 (by omega)] at hgo hend
            refine b_X2_behindStep ⟨a, by omega, rfl, ?_⟩
            rw [f0, ho, show M1.1 46 a = _ from q3 a haN 5 (by omega), n3]
            simp (decide := true) only [forall_const, true_and, and_true, not_true_eq_false, not_false_eq_true, false_implies, true_implies, implies_true]
            intro M2 e2
            rw [nI_1]
            have h2 : cMs M0 p M2 (qInc s) := by
              obtain ⟨g1, g2, g3, g4, g5, g6, g7, g8, g9⟩ := h1
              have p71 : p ≠ 71 := by have := B.2.2.2.2.2.2.2.1; omega
              rw [e2]
              refine ⟨g1.tr (jsame.I (Or.inr (Or.inr (Or.inr rfl)))), g2, fun c hc => by rw [jrI_n p71]; exact g3 c hc, ?_, ?_, ?_, ?_, ?_, g9⟩ <;> rw [jrI_n (by omega)] <;> assumption
            have s71 : M2.1 71 a = nI num := by rw [e2, jrI_s, pk_us]
            have t71 : ∀ j, j ≠ a → M2.1 71 j = M.1 71 j := fun j hj => by rw [e2, jrI_s, pk_un hj, r71]
            clear e2
            have go : ∀ k M3 t3 (s3 : qR), 1 ≤ k → k ≤ 99 → cMs M0 p M3 s3 → rO s3 = false → t3 + (Q + 1 + k) ≤ 101 * rS s3 → M3.1 71 a = nI k → (∀ j, (j < a ∨ e ≤ j) → M3.1 71 j = M.1 71 j) → qIt (qExec pl o n (a + 1) m) k s3 = qIt (qExec pl o n (a + 1) m) num (qInc s) → JW x jtbC mX2_work (d + 5) (jV P) 32 [(0, .ref (x.2.2.2 70)), (1, .ref (x.2.2.2 40)), (2, .ref (x.2.2.2 30)), (3, .ref (x.2.2.2 p)), (5, .int (nI (a + 1))), (6, .int (nI t3))] [] M3 := by
              intro k
              induction k with
              | zero => intro M3 t3 s3 h0; exact absurd h0 (by omega)
              | succ k ihk =>
                intro M3 t3 s3 _ hk99 c1 c2 c3 c4 c5 c6
                have c6' : qIt (qExec pl o n (a + 1) m) k (qExec pl o n (a + 1) m s3) = qIt (qExec pl o n (a + 1) m) num (qInc s) := c6
                refine ih (a + 1) m s3 M3 t3 (Q + 1 + (k + 1)) (by omega) m7 c1 c2 c3 (fun M' t' u1 u2 u3 u4 => ?_) (fun M' u1 u2 => ?_)
                · obtain ⟨v1, v2, v3⟩ := B.row u2
                  have S4' := u2.2.2.2.2.2.2.2.2.2.2.1
                  refine b_X2_work_32 (pk_le 1000000 t' (fun c => absurd c (by omega)) (fun _ => ?_))
                  rw [v2]
                  refine pk_le N m (fun c => absurd c (by omega)) (fun _ => ⟨m, by omega, rfl, ?_⟩)
                  rw [show M'.1 41 m = _ from v3 m hmN 0 (by omega), m5]
                  refine ⟨fun c => absurd rfl c, fun _ => b_X2_behindEnd ⟨m, by omega, rfl, a, by omega, by rw [show M'.1 47 m = _ from v3 m hmN 6 (by omega), m6], ?_⟩⟩
                  rw [show M'.1 41 a = _ from v3 a haN 0 (by omega), ho, u4 a (by omega), c4, nI_pred, show M'.1 47 m = _ from v3 m hmN 6 (by omega), m6]
                  refine ⟨fun c => absurd rfl c, fun _ => ?_⟩
                  intro M4 e4
                  have h4 : cMs M0 p M4 (qExec pl o n (a + 1) m s3) := by
                    obtain ⟨g1, g2, g3, g4, g5, g6, g7, g8, g9⟩ := u2
                    have p71 : p ≠ 71 := by have := B.2.2.2.2.2.2.2.1; omega
                    rw [e4]
                    refine ⟨g1.tr (jsame.I (Or.inr (Or.inr (Or.inr rfl)))), g2, fun c hc => by rw [jrI_n p71]; exact g3 c hc, ?_, ?_, ?_, ?_, ?_, g9⟩ <;> rw [jrI_n (by omega)] <;> assumption
                  have w71 : M4.1 71 a = nI k := by rw [e4, jrI_s, pk_us]
                  have x71 : ∀ j, (j < a ∨ e ≤ j) → M4.1 71 j = M.1 71 j := fun j hj => by rw [e4, jrI_s, pk_un (by omega), u4 j (by omega)]; exact c5 j hj
                  clear e4
                  rw [w71]
                  rcases Nat.eq_zero_or_pos k with k0 | k0
                  · subst k0
                    refine ⟨fun _ => ?_, fun c => absurd (show nI 0 ≤ (0 : Int32) by decide) c⟩
                    rw [nI_1, nI_1]
                    have c7 : qExec pl o n (a + 1) m s3 = qIt (qExec pl o n (a + 1) m) num (qInc s) := c6'
                    rw [← c7] at hgo hend
                    refine ih (m + 1) e _ M4 (t' + 1) Q (by omega) m8 h4 u1 (by omega) (fun M5 t5 w1 w2 w3 w4 => hgo M5 t5 w1 w2 w3 (fun j hj => by rw [w4 j (by omega)]; exact x71 j hj)) hend
                  · refine ⟨fun c => absurd c (nI_nle k0 (by omega)), fun _ => ?_⟩
                    rw [nI_1, nI_1]
                    exact ihk M4 (t' + 1) _ k0 (by omega) h4 u1 (by omega) w71 x71 c6'
                · have c8 : qIt (qExec pl o n (a + 1) m) num (qInc s) = qExec pl o n (a + 1) m s3 := by
                    rw [← c6']
                    exact qIt_over (fun s hs => exec_over hs) k _ u1
                  rw [c8, exec_over u1] at hend
                  exact hend M' u1 u2
            exact go num M2 (turn + 1) (qInc s) n1 n2 h2 iO (by omega) s71 (fun j hj => t71 j (by omega)) rfl
        · rw [if_neg (fun c => hop (Or.inl c)), if_neg (fun c => hop (Or.inr c))] at hgo hend
          have pln := act_plain (hA a haN) hop (hb.noEnd hl)
          refine c_plain B h1 ok (by omega) haN pln (fun M2 h2 h71 => ?_)
          have dO := qDo_over (pl := pl) (o := o) (a := a) (s := s)
          by_cases h17 : o.2 0 a = 17
          · rw [if_pos h17]
            have ov : rO (qDo pl o a (qInc s)) = true := by
              rw [dO, if_neg (by rw [h17]; decide)]
            rw [exec_over ov] at hend
            have S4' := h2.2.2.2.2.2.2.2.2.2.2.1
            refine b_X2_work_32 (pk_le 1000000 (turn + 1) (fun c => absurd c (by omega)) (fun _ => ?_))
            rw [(B.row h2).2.1]
            exact pk_le N N (fun _ => hend M2 ov h2) (fun c => absurd c (by omega))
          · rw [if_neg h17]
            have k3 : o.2 0 a = 6 ∨ o.2 0 a = 7 ∨ o.2 0 a = 9 := by
              rcases pln with ⟨q, _⟩ | ⟨q, _⟩ | q
              · rcases q with q | q
                · exact Or.inl q
                · exact Or.inr (Or.inl q)
              · exact Or.inr (Or.inr q)
              · exact absurd q h17
            have ov : rO (qDo pl o a (qInc s)) = false := by rw [dO, if_pos k3]; exact hO
            have sS : rS (qDo pl o a (qInc s)) = rS s + 1 := by
              unfold qDo
              rcases k3 with q | q | q
              · rw [if_pos q]; rfl
              · rw [if_neg (by rw [q]; decide), if_pos q]; rfl
              · rw [if_neg (by rw [q]; decide), if_neg (by rw [q]; decide), if_pos q]
                split
                · rfl
                · exact (qRage_all (qc pl) (qInc s) (ok.inc (by omega)).1 (ok.inc (by omega)).2.1 _).2.2.1
            refine ih (a + 1) e _ M2 (turn + 1) Q (by omega) (bk_next hN60 hA hb hl hop) h2 ov (by omega) (fun M' t' u1 u2 u3 u4 => hgo M' t' u1 u2 u3 (fun j hj => by rw [u4 j (by omega), h71, r71])) hend
end CEX
