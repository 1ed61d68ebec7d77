/-! the orders, as the class reads them: ends, the whole text -/
section OC2
variable {x : jX} {d : Nat} {M : jM} {f : Nat → Int32} {n a : Nat} {pl : qP} {st : qOS}
theorem k_oEnd {P : jM → Bool → Prop} (c : cOS M f n a st) (w : oInv st) (y : yI f n a = 16) (h1 : ¬ st.1 = 0 → ∀ M', jsame cOf M M' → cOS M' f n (yX f n a) (oEnd st) → P M' true) (h2 : st.1 = 0 → ∀ M', oFf M M' (yF f n a 2) → P M' false) : JC x jtbC mX4_readEnd (d + 3) [.ref (x.2.2.2 16)] M (jZ P) := by
  obtain ⟨t, c2, c3, c4, c5, c6, c7, c8, c9⟩ := id c
  obtain ⟨w1, w2, w3, w4⟩ := id w
  obtain ⟨dp, sk, s, m, o⟩ := st
  dsimp only at c2 c3 c5 c6 c7 w1 w2 w3 w4 h1 h2
  refine b_X4_readEnd (d := d + 2) ?_
  rw [c2, c6]
  refine pk_le dp 0 (fun l => k_refuse t (fun M' ft => h2 (by omega) M' ft.o.ff)) (fun l => pk_lt m 60 (fun m6 => ?_) (fun u => absurd u (by omega)))
  intro M2 e2
  rw [show (1 : Int32) = nI 1 from rfl, pk_sub (by omega)] at e2
  have bm : sk (dp - 1) < m := w4 (dp - 1) (by omega)
  have m2 : M2.1 17 2 = nI m := by rw [e2, jrI_n (by omega)]; exact c6
  refine ⟨m, m6, m2, fun M3 e3 => ⟨dp - 1, by omega, by rw [e3, jrI_n (by omega), e2, jrI_s, pk_us], fun M4 e4 => ⟨dp - 1, by omega, by rw [e4, jrI_n (by omega), e3, jrI_n (by omega), e2, jrI_s, pk_us], sk (dp - 1), by omega, ?_, fun M5 e5 M6 e6 => ?_⟩⟩⟩
  · rw [e4, jrI_n (by omega), e3, jrI_n (by omega), e2, jrI_n (by omega)]; exact c3 (dp - 1) (by omega)
  · have x28 : M3.1 28 (dp - 1) = nI (sk (dp - 1)) := by rw [e3, jrI_n (by omega), e2, jrI_n (by omega)]; exact c3 (dp - 1) (by omega)
    rw [x28] at e4
    rw [m2] at e5
    have x17 : M5.1 17 2 = nI m := by rw [e5, jrI_n (by omega), e4, jrI_n (by omega), e3, jrI_n (by omega)]; exact m2
    rw [x17, show (1 : Int32) = nI 1 from rfl, nI_add] at e6
    have q6 : ∀ q, q ≠ 16 → q ≠ 17 → q ≠ 18 → q ≠ 24 → M6.1 q = M.1 q := fun q a1 a2 a3 a4 => by rw [e6, jrI_n a2, e5, jrI_n a4, e4, jrI_n a4, e3, jrI_n a3, e2, jrI_n a1]
    have v6 : M6.2 = M.2 := by rw [e6, e5, e4, e3, e2]; rfl
    have r6 : cRt M6 25 f n a := t.keep (q6 25 (by omega) (by omega) (by omega) (by omega)) (by rw [v6]) (q6 2 (by omega) (by omega) (by omega) (by omega)) (by rw [v6])
    have st6 : cOS M6 f n a (oEnd (dp, sk, s, m, o)) := by
      refine ⟨r6, ?_, fun i hi => ?_, ?_, ?_, ?_, fun r hr j hj => ?_, ?_, ?_⟩
      · rw [e6, jrI_n (by omega), e5, jrI_n (by omega), e4, jrI_n (by omega), e3, jrI_n (by omega), e2, jrI_s, pk_us]; rfl
      · have hi' : i < dp - 1 := hi
        rw [q6 28 (by omega) (by omega) (by omega) (by omega)]; exact c3 i (by omega)
      · rw [e6, jrI_s, pk_un (by omega), e5, jrI_n (by omega), e4, jrI_n (by omega), e3, jrI_n (by omega), e2, jrI_n (by omega)]; exact c4
      · rw [e6, jrI_s, pk_un (by omega), e5, jrI_n (by omega), e4, jrI_n (by omega), e3, jrI_n (by omega), e2, jrI_n (by omega)]; exact c5
      · rw [e6, jrI_s, pk_us]; rfl
      · show _ = oPut (oPut (oPut o 0 m 16) 6 m (nI (sk (dp - 1)))) 6 (sk (dp - 1)) (nI m) r j
        unfold oPut
        by_cases r0 : r = 0
        · subst r0
          rw [if_neg (by omega), if_neg (by omega), e6, jrI_n (by omega), e5, jrI_n (by omega), e4, jrI_n (by omega), e3, jrI_s]
          by_cases jm : j = m
          · rw [if_pos ⟨rfl, jm⟩, jm, pk_us]
          · rw [if_neg (fun u => jm u.2), pk_un jm, e2, jrI_n (by omega)]; exact c7 0 hr j hj
        · by_cases r6 : r = 6
          · subst r6
            rw [e6, jrI_n (by omega), e5, jrI_s]
            by_cases jb' : j = sk (dp - 1)
            · rw [if_pos ⟨rfl, jb'⟩, jb', pk_us]
            · rw [if_neg (fun u => jb' u.2), pk_un jb', e4, jrI_s]
              by_cases jm : j = m
              · rw [if_pos ⟨rfl, jm⟩, jm, pk_us]
              · rw [if_neg (fun u => jm u.2), pk_un jm, if_neg (by omega), e3, jrI_n (by omega), e2, jrI_n (by omega)]; exact c7 6 hr j hj
          · rw [if_neg (by omega), if_neg (by omega), if_neg (by omega), q6 (18 + r) (by omega) (by omega) (by omega) (by omega)]; exact c7 r hr j hj
      · rw [q6 25 (by omega) (by omega) (by omega) (by omega)]; exact c8
      · rw [q6 25 (by omega) (by omega) (by omega) (by omega)]; exact c9
    refine k_takeWord (w := 16) (by omega) r6 (fun _ M7 k7 r7 => h1 (by omega) M7 (fun q hq => ?_) (st6.move k7 r7)) (fun u => absurd y u)
    have := k7.1 q (fun u => hq (by unfold cOf; omega))
    exact ⟨this.1.trans (q6 q (fun u => hq (by unfold cOf; omega)) (fun u => hq (by unfold cOf; omega)) (fun u => hq (by unfold cOf; omega)) (fun u => hq (by unfold cOf; omega))), this.2.trans (by rw [v6])⟩
theorem k_readOrders {P : jM → Bool → Prop} (n9 : n ≤ 900) (tx : ∀ k, k < n → M.1 2 k = f k) (wd : ∀ k, k < 26 → M.2 26 k = qWord k) (hp : cPl M 30 pl)
    (h1 : ∀ M' st, qOrd f n pl (fun r j => M.1 (18 + r) j) = .inr st → jsame cOf M M' → cOr M' 17 (oMk st) → oInv st → M'.1 25 6 = 0 → M'.1 25 7 = -1 → P M' true)
    (h2 : ∀ M' e, qOrd f n pl (fun r j => M.1 (18 + r) j) = .inl e → jsame cOf M M' → M'.1 25 6 = e.1 → M'.1 25 7 = e.2 → P M' false) : JC x jtbC mX4_readOrders (d + 6) [.ref (x.2.2.2 16), .ref (x.2.2.2 2), .int (nI n), .ref (x.2.2.2 30)] M (jZ P) := by
  generalize hR : qOrd f n pl (fun r j => M.1 (18 + r) j) = R at h1 h2
  refine b_X4_readOrders (d := d + 5) ?_
  intro M1 e1
  refine b_X3_begin atC3_17 ⟨Or.inr rfl, fun M2 e2 M3 e3 M4 e4 => ?_⟩
  have q4 : ∀ q, q ≠ 16 → q ≠ 17 → M4.1 q = M.1 q := fun q a1 a2 => by rw [e4, jrI_n a2, e3, jrI_n a2, e2, jrI_n a2, e1, jrI_n a1]
  have v4 : M4.2 = M.2 := by rw [e4, e3, e2, e1]; rfl
  refine k_begin7 (f := f) n9 (fun k hk => by rw [q4 2 (by omega) (by omega)]; exact tx k hk) (fun k hk => by rw [v4]; exact wd k hk) (Or.inr rfl) (fun M5 s5 z6 z7 r5 => ?_)
  have s05 : jsame cOf M M5 := fun q hq => by
    have := s5 q (fun u => hq (by unfold cOf; omega))
    exact ⟨this.1.trans (q4 q (fun u => hq (by unfold cOf; omega)) (fun u => hq (by unfold cOf; omega))), this.2.trans (by rw [v4])⟩
  have start : cOS M5 f n 0 (0, fun _ => 0, 0, 0, fun r j => M.1 (18 + r) j) := by
    refine ⟨r5, ?_, fun i hi => absurd hi (Nat.not_lt_zero _), ?_, ?_, ?_, fun r hr j hj => ?_, z6, z7⟩
    · rw [(s5 16 (by omega)).1, e4, jrI_n (by omega), e3, jrI_n (by omega), e2, jrI_n (by omega), e1, jrI_s, pk_us]; rfl
    · rw [(s5 17 (by omega)).1, e4, jrI_s, pk_un (by omega), e3, jrI_s, pk_un (by omega), e2, jrI_s, pk_us]
    · rw [(s5 17 (by omega)).1, e4, jrI_s, pk_un (by omega), e3, jrI_s, pk_us]; rfl
    · rw [(s5 17 (by omega)).1, e4, jrI_s, pk_us]; rfl
    · rw [(s5 (18 + r) (by omega)).1, q4 (18 + r) (by omega) (by omega)]
  have fin : ∀ a st M', cOS M' f n a st → oInv st → jsame cOf M M' → (if st.1 = 0 then .inr st else .inl (yF f n a 2)) = R → JW x jtbC mX4_readOrders (d + 6) (jZ P) 105 [(0, .ref (x.2.2.2 16))] [] M' := fun a st M' c w s he => by
    refine b_X4_readOrders_105 (d := d + 5) ?_
    have d3 := w.1
    rw [c.2.1, nI_eq0 (by omega)]
    refine ⟨fun d0 => ?_, fun d0 => ?_⟩
    · rw [if_pos d0] at he
      refine h1 M' st he.symm s ⟨c.2.2.2.1, Or.inr rfl, c.2.2.2.2.1, c.2.2.2.2.2.1, st.2.2.2.1, ?_, rfl, fun r hr j hj => ?_⟩ w c.2.2.2.2.2.2.2.1 c.2.2.2.2.2.2.2.2
      · obtain ⟨w1, w2, w3, w4⟩ := w
        omega
      · obtain ⟨w1, w2, w3, w4⟩ := w
        exact c.2.2.2.2.2.2.1 r hr j (by omega)
    · rw [if_neg d0] at he
      exact k_refuse c.1 (fun M2 ft => ⟨fun _ => h2 M2 _ he.symm (s.tr ft.o.ff.1) ft.2.1 ft.2.2, fun u => (by cases u)⟩)
  have main : ∀ k i a st M', i + k = n → i ≤ a → oLoop f n pl k a st = R → jsame cOf M M' → cOS M' f n a st → oInv st → JW x jtbC mX4_readOrders (d + 6) (jZ P) 25 [(0, .ref (x.2.2.2 16)), (2, .int (nI n)), (3, .ref (x.2.2.2 30)), (4, .int (nI i))] [] M' := by
    intro k
    induction k with
    | zero =>
      intro i a st M' hi ia he s c w
      rw [oLoop] at he
      exact b_X4_readOrders_25 (d := d + 5) (pk_le n i (fun _ => fin a st M' c w s he) (fun u => absurd u (by omega)))
    | succ k ih =>
      intro i a st M' hi ia he s c w
      have kl := yK_le (f := f) (n := n) (a := a)
      have il := yI_le (f := f) (n := n) (a := a)
      rw [oLoop] at he
      refine b_X4_readOrders_25 (d := d + 5) (pk_le n i (fun u => absurd u (by omega)) (fun _ => ?_))
      rw [c.1.2.1.2.2.2.2.1, nI_eq0 (by omega)]
      refine ⟨fun k0 => ?_, fun k0 => ?_⟩
      · rw [if_pos k0] at he
        exact fin a st M' c w s he
      · rw [if_neg k0] at he
        have k16 : M'.1 25 3 = (16 : Int32) ↔ yI f n a = 16 := by rw [c.1.2.1.2.2.2.2.2.1]; exact yWx_eq (k := 16) il (by decide)
        rw [k16]
        have step := fun a' st' => oStep_ok (f := f) (n := n) (pl := pl) (a := a) (a' := a') (st := st) (st' := st') c.1.2.2 w
        -- its semicolon
        have semi : ∀ a1 st1 M2, oStep f n a pl st = tkS f n a1 st1 → jsame cOf M M2 → cOS M2 f n a1 st1 → JW x jtbC mX4_readOrders (d + 6) (jZ P) 80 [(0, .ref (x.2.2.2 16)), (2, .int (nI n)), (3, .ref (x.2.2.2 30)), (4, .int (nI i))] [.int (1 : Int32)] M2 := fun a1 st1 M2 eo s2 c2 => by
          refine b_X4_readOrders_80 (d := d + 5) ⟨fun u => absurd u (by decide), fun _ => k_takeSemi c2.1 (fun ys M3 k3 r3 => ⟨fun _ => ?_, fun u => (by cases u)⟩) (fun ns M3 ft => ⟨fun u => (by cases u), fun _ => ?_⟩)⟩
          · have eo' : oStep f n a pl st = .inr (yX f n a1, st1) := by rw [eo]; unfold tkS; rw [if_pos ys]
            obtain ⟨o1, o2, o3⟩ := step _ _ eo'
            rw [eo'] at he
            dsimp only at he
            rw [nI_1]
            exact ih (i + 1) (yX f n a1) st1 M3 (by omega) (by omega) he (s2.tr (k3.1.mono (fun q hq => by unfold cOf; omega))) (c2.move k3 r3) o3
          · have eo' : oStep f n a pl st = .inl (yF f n a1 2) := by rw [eo]; unfold tkS; rw [if_neg ns]
            rw [eo'] at he
            exact h2 M3 _ he.symm (s2.tr ft.o.ff.1) ft.2.1 ft.2.2
        have bad : ∀ e M2, oStep f n a pl st = .inl e → oFf M' M2 e → JW x jtbC mX4_readOrders (d + 6) (jZ P) 80 [(0, .ref (x.2.2.2 16)), (2, .int (nI n)), (3, .ref (x.2.2.2 30)), (4, .int (nI i))] [.int (0 : Int32)] M2 := fun e M2 eo ft => by
          rw [eo] at he
          exact b_X4_readOrders_80 (d := d + 5) ⟨fun _ => h2 M2 e he.symm (s.tr ft.1) ft.2.1 ft.2.2, fun u => absurd rfl u⟩
        refine ⟨fun n16 => ?_, fun y16 => ?_⟩
        · refine k_oOpen c w (fun kk hk kd n30 n3 M2 s2 c2 => ⟨fun u => (by cases u), fun _ => ?_⟩) (fun e he' M2 ft => ⟨fun _ => bad e M2 ?_ ft, fun u => (by cases u)⟩)
          · have eo : oStep f n a pl st = eB (pRest f n (yX f n a) pl kk (aSet (fun r => st.2.2.2.2 r st.2.2.2.1) 0 (nI kk))) (fun a1 g => tkS f n a1 (oOpen st kk g)) := by
              unfold oStep
              rw [← hk, if_neg (by omega), if_pos kd, if_neg n30, if_neg n3]
            obtain ⟨w1, w2, w3, w4⟩ := w
            have p2 : cPl M2 30 pl := hp.keep (fun q q1 q2 => ((s.tr s2) q (by unfold cOf; omega)).1) ((s.tr s2) 34 (by unfold cOf; omega)).2
            have ac : cAc M2 f n (yX f n a) st.2.2.2.1 (aSet (fun r => st.2.2.2.2 r st.2.2.2.1) 0 (nI kk)) := ⟨c2.1, fun r hr => by
              rw [c2.2.2.2.2.2.2.1 r hr _ (by omega)]
              show oCol st.2.2.2.2 st.2.2.2.1 _ r st.2.2.2.1 = _
              unfold oCol; rw [if_pos rfl]⟩
            refine k_oRest kd (by omega) p2 ac (ac.2 0 (by omega)) ?_ ⟨fun p hp' M3 r3 c3 => ⟨fun u => (by cases u), fun _ => ?_⟩, fun e he' M3 ft => ⟨fun _ => bad e M3 (by rw [eo, he']; rfl) (oFf.from s2 ft.ff), fun u => (by cases u)⟩⟩
            · rw [c2.2.2.2.2.2.1]
              show nI (st.2.2.2.1 + 1) - 1 = _
              rw [show (1 : Int32) = nI 1 from rfl, pk_sub (by omega)]; rfl
            · exact semi p.1 (oOpen st kk p.2) M3 (by rw [eo, hp']; rfl) ((s.tr s2).tr (r3.1.mono (fun q hq => oRw_cOf hq))) (c2.col rfl r3 c3)
          · unfold oStep
            rw [if_neg n16]
            rcases he' with ⟨nk, rfl⟩ | ⟨kd, ⟨l, rfl⟩ | ⟨l, bl, rfl⟩⟩
            · rw [if_neg nk]
            · rw [if_pos kd, if_pos l]
            · rw [if_pos kd, if_neg l, if_pos bl]
        · refine k_oEnd c w y16 (fun d0 M2 s2 c2 => ?_) (fun d0 M2 ft => bad _ M2 ?_ ft)
          · exact semi (yX f n a) (oEnd st) M2 (by unfold oStep; rw [if_pos y16, if_neg d0]) (s.tr s2) c2
          · unfold oStep; rw [if_pos y16, if_pos d0]
  exact main n 0 0 _ M5 (by omega) (Nat.le_refl _) hR s05 start ⟨Nat.zero_le _, Nat.zero_le _, Nat.le_refl _, fun i hi => absurd hi (Nat.not_lt_zero _)⟩
end OC2
