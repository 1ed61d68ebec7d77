section CP3
variable {x : jX} {d : Nat} {M : jM} {f : Nat → Int32} {n : Nat}
theorem k_readPart {P : jM → Bool → Prop} {a : Nat} {st : qPS} (h0 : cPS M f n a st)
    (h1 : ∀ M' a' st', pPart f n a st = .inr (a', st') → jsame cPf M M' → cRt M' 13 f n a' → cPl M' 4 st'.1 → M'.1 3 2 = nI st'.2.1 → M'.1 3 3 = nI st'.2.2.1 → M'.1 3 4 = nI st'.2.2.2 → M'.1 13 6 = 0 → M'.1 13 7 = -1 → P M' true)
    (h2 : ∀ M' e, pPart f n a st = .inl e → jsame cPf M M' → M'.1 13 6 = e.1 → M'.1 13 7 = e.2 → P M' false) : JC x jtbC mX6_readPart (d + 5) [.ref (x.2.2.2 3)] M (jZ P) := by
  obtain ⟨r0, hp, c2, c3, c4, c6, c7, wf⟩ := h0
  obtain ⟨pl, m, l, pr⟩ := st
  dsimp only at hp c2 c3 c4
  obtain ⟨w1, w2, w3, w4, w5, w6⟩ := wf
  dsimp only at w1 w2 w3 w4 w5 w6
  have il := yI_le (f := f) (n := n) (a := a)
  have x3 := r0.2.1.2.2.2.2.2.1
  unfold pPart at h1 h2
  dsimp only at h1 h2
  -- a counter goes up, then cells are read
  have cells : ∀ (r cnt lo : Nat), r < 3 → lo ≤ 1 → cnt ≤ qh pl → ∀ M1, M1 = jrI M 3 (upd (M.1 3) (2 + r) (nI (cnt + 1))) → (∀ M' a' pl', pCells f n a pl r cnt lo = .inr (a', pl') → jsame cPf M M' → cRt M' 13 f n a' → cPl M' 4 pl' → (∀ k, M'.1 3 k = M1.1 3 k) → M'.1 13 6 = 0 → M'.1 13 7 = -1 → P M' true) → (∀ M' e, pCells f n a pl r cnt lo = .inl e → jsame cPf M M' → M'.1 13 6 = e.1 → M'.1 13 7 = e.2 → P M' false) → JC x jtbC mX6_readCells (d + 4) [.ref (x.2.2.2 3), .ref (x.2.2.2 (5 + r)), .int (nI (cnt + 1)), .int (nI lo)] M1 (jZ fun M2 b => P M2 b) := fun r cnt lo hr hlo hc M1 e1 g1 g2 => by
    have s1 : jsame cPf M M1 := by rw [e1]; exact jsame.I (by unfold cPf; omega)
    have r1 : cRt M1 13 f n a := r0.keep (by rw [e1, jrI_n (by omega)]) (by rw [e1]; rfl) (by rw [e1, jrI_n (by omega)]) (by rw [e1]; rfl)
    have p1 : cPl M1 4 pl := hp.keep (fun q q1 q2 => by rw [e1, jrI_n (by omega)]) (by rw [e1]; rfl)
    refine k_readCells hr hlo r1 p1 w2 hc (fun M' a' pl' e s2 s3 s4 s5 => ?_) (fun M' e he s2 s3 s4 => ?_)
    · refine g1 M' a' pl' e (s1.tr (s2.mono (fun q hq => by unfold cPf; omega))) s4 s5 (fun k => by rw [(s2 3 (by omega)).1]) ?_ ?_
      · rw [s3 6 (by omega), e1, jrI_n (by omega)]; exact c6
      · rw [s3 7 (by omega), e1, jrI_n (by omega)]; exact c7
    · exact g2 M' e he (s1.tr (s2.mono (fun q hq => by unfold cPf; omega))) s3 s4
  refine b_X6_readPart (d := d + 4) ?_
  rw [x3, show (1 : Int32) = nI 1 from rfl, show (2 : Int32) = nI 2 from rfl, show (3 : Int32) = nI 3 from rfl, show (4 : Int32) = nI 4 from rfl, yWx_eq il (by decide), yWx_eq il (by decide), yWx_eq il (by decide), yWx_eq il (by decide)]
  refine ⟨fun y1 => ?_, fun n1 => ⟨fun y2 => ?_, fun n2 => ⟨fun y3 => ?_, fun n3 => ⟨fun y4 => ?_, fun n4 => ?_⟩⟩⟩⟩
  · rw [if_pos y1] at h1 h2
    intro M1 e1
    rw [c2, nI_add] at e1
    rw [show M1.1 3 2 = nI (m + 1) by rw [e1, jrI_s, pk_us]]
    refine cells 0 m 0 (by decide) (by decide) w4 M1 e1 (fun M' a' pl' e s1 s2 s3 s4 s5 s6 => h1 M' a' _ (by rw [e]; rfl) s1 s2 s3 ?_ ?_ ?_ s5 s6) (fun M' e he s1 s2 s3 => h2 M' e (by rw [he]; rfl) s1 s2 s3)
    · rw [s4, e1, jrI_s, pk_us]
    · rw [s4, e1, jrI_s, pk_un (by omega)]; exact c3
    · rw [s4, e1, jrI_s, pk_un (by omega)]; exact c4
  · rw [if_neg n1, if_pos y2] at h1 h2
    intro M1 e1
    rw [c3, show (nI 1 : Int32) = nI 1 from rfl, nI_add] at e1
    rw [show M1.1 3 3 = nI (l + 1) by rw [e1, jrI_s, pk_us]]
    refine cells 1 l 0 (by decide) (by decide) w5 M1 e1 (fun M' a' pl' e s1 s2 s3 s4 s5 s6 => h1 M' a' _ (by rw [e]; rfl) s1 s2 s3 ?_ ?_ ?_ s5 s6) (fun M' e he s1 s2 s3 => h2 M' e (by rw [he]; rfl) s1 s2 s3)
    · rw [s4, e1, jrI_s, pk_un (by omega)]; exact c2
    · rw [s4, e1, jrI_s, pk_us]
    · rw [s4, e1, jrI_s, pk_un (by omega)]; exact c4
  · rw [if_neg n1, if_neg n2, if_pos y3] at h1 h2
    intro M1 e1
    rw [c4, nI_add] at e1
    rw [show M1.1 3 4 = nI (pr + 1) by rw [e1, jrI_s, pk_us]]
    refine cells 2 pr 1 (by decide) (by decide) w6 M1 e1 (fun M' a' pl' e s1 s2 s3 s4 s5 s6 => h1 M' a' _ (by rw [e]; rfl) s1 s2 s3 ?_ ?_ ?_ s5 s6) (fun M' e he s1 s2 s3 => h2 M' e (by rw [he]; rfl) s1 s2 s3)
    · rw [s4, e1, jrI_s, pk_un (by omega)]; exact c2
    · rw [s4, e1, jrI_s, pk_un (by omega)]; exact c3
    · rw [s4, e1, jrI_s, pk_us]
  · rw [if_neg n1, if_neg n2, if_neg n3, if_pos y4] at h1 h2
    refine k_readVillage r0 hp w2 w3 (fun M' a' pl' e s1 s2 s3 s4 => h1 M' a' _ (by rw [e]; rfl) (s1.mono (fun q hq => by unfold cPf; omega)) s3 s4 ?_ ?_ ?_ ?_ ?_) (fun M' e he s1 s2 s3 => h2 M' e (by rw [he]; rfl) (s1.mono (fun q hq => by unfold cPf; omega)) s2 s3)
    · rw [(s1 3 (by omega)).1]; exact c2
    · rw [(s1 3 (by omega)).1]; exact c3
    · rw [(s1 3 (by omega)).1]; exact c4
    · rw [s2 6 (by omega)]; exact c6
    · rw [s2 7 (by omega)]; exact c7
  · rw [if_neg n1, if_neg n2, if_neg n3, if_neg n4] at h1 h2
    exact k_refuse r0 (fun M' g => h2 M' _ rfl (g.1.mono (fun q hq => by unfold cPf; omega)) g.2.1 g.2.2)
theorem k_takeN {P : jM → Bool → Prop} {p a lo hi : Nat} (hlo : lo < 2 ^ 30) (hhi : hi < 2 ^ 30) (h0 : cRt M p f n a) (h1 : ∀ a' v, tkN f n a lo hi = .inr (a', v) → ∀ M', jsame (fun r => r = p) M M' → (∀ k, (k = 6 ∨ k = 7) → M'.1 p k = M.1 p k) → M'.1 p 5 = nI v → cRt M' p f n a' → lo ≤ v → v ≤ hi → P M' true) (h2 : ∀ e, tkN f n a lo hi = .inl e → ∀ M', cFt M M' p e → P M' false) : JC x jtbC mX7_takeNumber (d + 2) [.ref (x.2.2.2 p), .int (nI lo), .int (nI hi)] M (jZ P) := by
  unfold tkN at h1 h2
  have tl := nI_toInt (n := lo) (by omega)
  have th := nI_toInt (n := hi) (by omega)
  refine k_takeNumber h0 (fun k3 r1 r2 M' c1 c2 c3 c4 => ?_) (fun k3 M' c => ?_) (fun k3 nr M' c => ?_)
  · rw [tl] at r1
    rw [th] at r2
    rw [if_pos k3, if_pos (by omega)] at h1
    exact h1 _ _ rfl M' c1 c2 c3 c4 (by omega) (by omega)
  · rw [if_neg k3] at h2
    exact h2 _ rfl M' c
  · rw [tl, th] at nr
    rw [if_pos k3, if_neg (by omega)] at h2
    exact h2 _ rfl M' c
/-- a plain is read: what the class's reader tells -/
theorem k_readPlain {P : jM → Bool → Prop} (n9 : n ≤ 900) (tx : ∀ k, k < n → M.1 2 k = f k) (wd : ∀ k, k < 26 → M.2 14 k = qWord k)
    (h1 : ∀ M' pl, qPlain f n = .inr pl → jsame cPf M M' → cPl M' 4 pl → M'.1 13 6 = 0 → M'.1 13 7 = -1 → P M' true)
    (h2 : ∀ M' e, qPlain f n = .inl e → jsame cPf M M' → M'.1 13 6 = e.1 → M'.1 13 7 = e.2 → P M' false) : JC x jtbC mX6_readPlain (d + 6) [.ref (x.2.2.2 3), .ref (x.2.2.2 2), .int (nI n)] M (jZ P) := by
  refine b_X6_readPlain (d := d + 5) (k_begin7 n9 tx wd (Or.inl rfl) (fun M1 s1 z6 z7 r1 => ?_))
  intro M2 e2 M3 e3 M4 e4
  have f4 : ∀ q, q ≠ 3 → M4.1 q = M1.1 q := fun q hq => by rw [e4, jrI_n hq, e3, jrI_n hq, e2, jrI_n hq]
  have v4 : M4.2 = M1.2 := by rw [e4, e3, e2]; rfl
  have r4 : cRt M4 13 f n 0 := r1.keep (f4 13 (by omega)) (by rw [v4]) (f4 2 (by omega)) (by rw [v4])
  have s4 : jsame cPf M M4 := (s1.mono (fun q hq => by unfold cPf; omega)).tr (by rw [e4, e3, e2]; exact ((jsame.I (S := cPf) (by unfold cPf; omega)).tr (jsame.I (by unfold cPf; omega))).tr (jsame.I (by unfold cPf; omega)))
  have m2 : M4.1 3 2 = nI 0 := by rw [e4, jrI_s, pk_un (by omega), e3, jrI_s, pk_un (by omega), e2, jrI_s, pk_us]; rfl
  have m3 : M4.1 3 3 = nI 0 := by rw [e4, jrI_s, pk_un (by omega), e3, jrI_s, pk_us]; rfl
  have m4 : M4.1 3 4 = nI 0 := by rw [e4, jrI_s, pk_us]; rfl
  have z6' : M4.1 13 6 = 0 := by rw [f4 13 (by omega)]; exact z6
  have z7' : M4.1 13 7 = -1 := by rw [f4 13 (by omega)]; exact z7
  have pf : ∀ q, q = 13 → cPf q := fun q hq => by unfold cPf; omega
  unfold qPlain at h1 h2
  refine b_X6_readSize (d := d + 4) (k_takeWord (w := 0) (by decide) r4 (fun y M5 g1 r5 => ⟨fun u => (by cases u), fun _ => ?_⟩) (fun y M5 g => ⟨fun _ => ⟨fun u => (by cases u), fun _ => ?_⟩, fun u => (by cases u)⟩))
  · rw [if_pos y] at h1 h2
    refine k_takeN (lo := 1) (hi := 5) (by decide) (by decide) r5 (fun a2 w e5 M6 g2 g3 g4 r6 lw hw => ⟨fun _ => ?_, fun u => (by cases u)⟩) (fun e e5 M6 g => ⟨fun u => (by cases u), fun _ => ⟨fun u => (by cases u), fun _ => ?_⟩⟩)
    · rw [e5] at h1 h2
      dsimp only at h1 h2
      refine k_takeN (lo := 1) (hi := 5) (by decide) (by decide) r6 (fun a3 h e6 M7 g5 g6 g7 r7 lh hh => ⟨fun u => (by cases u), fun _ => ?_⟩) (fun e e6 M7 g => ⟨fun _ => ⟨fun u => (by cases u), fun _ => ?_⟩, fun u => (by cases u)⟩)
      · rw [e6] at h1 h2
        dsimp only at h1 h2
        refine k_takeSemi r7 (fun ys M8 g8 r8 => ⟨fun _ => ?_, fun u => (by cases u)⟩) (fun ys M8 g => ⟨fun u => (by cases u), fun _ => ⟨fun u => (by cases u), fun _ => ?_⟩⟩)
        · rw [if_pos ys] at h1 h2
          have t58 : ∀ q, q ≠ 13 → M8.1 q = M4.1 q ∧ M8.2 q = M4.2 q := fun q hq => by
            have u1 := g1.1 q hq
            have u2 := g2 q hq
            have u3 := g5 q hq
            have u4 := g8.1 q hq
            exact ⟨u4.1.trans (u3.1.trans (u2.1.trans u1.1)), u4.2.trans (u3.2.trans (u2.2.trans u1.2))⟩
          have x5 : M8.1 13 5 = nI h := by rw [g8.2 5 (by omega)]; exact g7
          have y6 : M8.1 13 6 = 0 := by rw [g8.2 6 (by omega), g6 6 (by omega), g3 6 (by omega), g1.2 6 (by omega)]; exact z6'
          have y7 : M8.1 13 7 = -1 := by rw [g8.2 7 (by omega), g6 7 (by omega), g3 7 (by omega), g1.2 7 (by omega)]; exact z7'
          rw [g4, x5]
          refine k_begin (d := d + 3) atC5_4 (by omega) (by omega) lw lh (fun M9 s9 p9 => ⟨fun _ => ?_, fun u => (by cases u)⟩)
          have s49 : jsame cPf M M9 := (s4.tr (fun q hq => t58 q (fun u => hq (pf q u)))).tr (s9.mono (fun q hq => by unfold cPf; omega))
          have r9 : cRt M9 13 f n (yX f n a3) := r8.keep (s9 13 (by omega)).1 (s9 13 (by omega)).2 (s9 2 (by omega)).1 (s9 14 (by omega)).2
          have start : cPS M9 f n (yX f n a3) (qP0 w h, 0, 0, 0) := ⟨r9, p9, by rw [(s9 3 (by omega)).1, (t58 3 (by omega)).1]; exact m2, by rw [(s9 3 (by omega)).1, (t58 3 (by omega)).1]; exact m3, by rw [(s9 3 (by omega)).1, (t58 3 (by omega)).1]; exact m4, by rw [(s9 13 (by omega)).1]; exact y6, by rw [(s9 13 (by omega)).1]; exact y7, qP0_wf hw hh lw lh, lw, lh, Nat.zero_le _, Nat.zero_le _, Nat.zero_le _⟩
          -- part by part
          have main : ∀ k i a st M', i + k = n → i ≤ a → pLoop f n k a st = pLoop f n n (yX f n a3) (qP0 w h, 0, 0, 0) → jsame cPf M M' → cPS M' f n a st → JW x jtbC mX6_readPlain (d + 6) (jZ P) 35 [(0, .ref (x.2.2.2 3)), (2, .int (nI n)), (3, .int (nI i))] [] M' := by
            intro k
            induction k with
            | zero =>
              intro i a st M' hi ia he s c
              rw [pLoop] at he
              exact b_X6_readPlain_35 (pk_le n i (fun _ => h1 M' st.1 he.symm s c.2.1 c.2.2.2.2.2.1 c.2.2.2.2.2.2.1) (fun u => absurd u (by omega)))
            | succ k ih =>
              intro i a st M' hi ia he s c
              have kl := yK_le (f := f) (n := n) (a := a)
              rw [pLoop] at he
              refine b_X6_readPlain_35 (pk_le n i (fun u => absurd u (by omega)) (fun _ => ?_))
              rw [c.1.2.1.2.2.2.2.1, nI_eq0 (by omega)]
              refine ⟨fun k0 => ?_, fun k0 => ?_⟩
              · rw [if_pos k0] at he
                exact h1 M' st.1 he.symm s c.2.1 c.2.2.2.2.2.1 c.2.2.2.2.2.2.1
              · rw [if_neg k0] at he
                refine k_readPart c (fun M2' a' st' e t1 t2 t3 t4 t5 t6 t7 t8 => ⟨fun _ => ?_, fun u => (by cases u)⟩) (fun M2' e he' t1 t2 t3 => ⟨fun u => (by cases u), fun _ => ?_⟩)
                · rw [e] at he
                  dsimp only at he
                  obtain ⟨o1, o2, o3⟩ := pPart_ok c.2.2.2.2.2.2.2 k0 c.1.2.2 e
                  rw [nI_1]
                  exact ih (i + 1) a' st' M2' (by omega) (by omega) he (s.tr t1) ⟨t2, t3, t4, t5, t6, t7, t8, o3⟩
                · rw [he'] at he
                  exact h2 M2' e he.symm (s.tr t1) t2 t3
          exact main n 0 (yX f n a3) (qP0 w h, 0, 0, 0) M9 (by omega) (Nat.zero_le _) rfl s49 start
        · rw [if_neg ys] at h2
          refine h2 M8 _ rfl (s4.tr (fun q hq => ?_)) g.2.1 g.2.2
          have nq : q ≠ 13 := fun u => hq (pf q u)
          have u1 := g1.1 q nq
          have u2 := g2 q nq
          have u3 := g5 q nq
          have u4 := g.1 q nq
          exact ⟨u4.1.trans (u3.1.trans (u2.1.trans u1.1)), u4.2.trans (u3.2.trans (u2.2.trans u1.2))⟩
      · rw [e6] at h2
        refine h2 M7 _ rfl (s4.tr (fun q hq => ?_)) g.2.1 g.2.2
        have nq : q ≠ 13 := fun u => hq (pf q u)
        have u1 := g1.1 q nq
        have u2 := g2 q nq
        have u3 := g.1 q nq
        exact ⟨u3.1.trans (u2.1.trans u1.1), u3.2.trans (u2.2.trans u1.2)⟩
    · rw [e5] at h2
      refine h2 M6 _ rfl (s4.tr (fun q hq => ?_)) g.2.1 g.2.2
      have nq : q ≠ 13 := fun u => hq (pf q u)
      have u1 := g1.1 q nq
      have u2 := g.1 q nq
      exact ⟨u2.1.trans u1.1, u2.2.trans u1.2⟩
  · rw [if_neg y] at h2
    exact h2 M5 _ rfl (s4.tr (g.1.mono pf)) g.2.1 g.2.2
end CP3
def sPlain (z : qZ) (a : Int32) : qZ × Int32 := if decide (0 ≤ a.toInt ∧ a.toInt ≤ (zTp z).1) then (match qPlain (zTp z).2 a.toNatClampNeg with
    | .inl e => rf (uFa (uTp z (0, (zTp z).2)) e) 10
    | .inr pl => (uSt (uNw (uFa (uTp z (0, (zTp z).2)) (0, -1)) (qW0 pl)) 0, nI (qc pl))) else rf z 5
theorem cI.setFa {M M' : jM} {z : qZ} {e : Int32 × Int32} (h : cI M z) (hs : jsame (fun q => q = 76) M M') (h0 : M'.1 76 0 = e.1) (h1 : M'.1 76 1 = e.2) : cI M' (uFa z e) := by
  obtain ⟨a1, a2, a3, a4, a5, a6, a7, a8, a9, a10, a11, a12, a13, a14, a15, a16⟩ := h
  have r : ∀ q, q ≠ 76 → M'.1 q = M.1 q ∧ M'.2 q = M.2 q := hs
  exact ⟨by rw [(r 0 (by omega)).1]; exact a1, by rw [(r 75 (by omega)).2]; exact a2, by rw [(r 75 (by omega)).2]; exact a3, fun t ht => (a4 t ht).keep (r _ (by omega)).1 (r _ (by omega)).2, by rw [(r 0 (by omega)).1]; exact a5, fun k hk => by rw [(r 2 (by omega)).1]; exact a6 k hk, h0, h1, a9.keep (fun q q1 q2 q3 => (r q (by omega)).1) (r _ (by omega)).2, by rw [(r 0 (by omega)).1]; exact a10, fun m hm => (a11 m hm).keep (fun q q1 q2 q3 => (r q (by omega)).1) (r _ (by omega)).2, by rw [(r 62 (by omega)).1]; exact a12, fun k hk => by rw [(r 65 (by omega)).1]; exact a13 k hk, fun k hk => by rw [(r 74 (by omega)).1]; exact a14 k hk, fun k hk => by rw [(r 14 (by omega)).2, (r 26 (by omega)).2]; exact a15 k hk, a16⟩
section OPL
variable {x : jX} {d : Nat} {M : jM} {z : qZ}
theorem k_tellFault {P : jM → Prop} {p : Nat} {e : Int32 × Int32} (pp : p = 13 ∨ p = 25) (h : cI M z) (h6 : M.1 p 6 = e.1) (h7 : M.1 p 7 = e.2) (hP : ∀ M', jsame (fun q => q = 76) M M' → cI M' (uFa z e) → P M') : JC x jtbC mX11_tellFault d [.ref (x.2.2.2 0), .ref (x.2.2.2 p)] M (jV P) := by
  refine b_X11_tellFault (aX7_at pp) ?_
  intro M1 e1 M2 e2
  have s : jsame (fun q => q = 76) M M2 := by rw [e2, e1]; exact (jsame.I (S := fun q => q = 76) rfl).tr (jsame.I rfl)
  refine hP M2 s (h.setFa s ?_ ?_)
  · rw [e2, jrI_s, pk_un (by omega), e1, jrI_s, pk_us]; exact h6
  · rw [e2, jrI_s, pk_us, e1, jrI_n (by omega)]; exact h7
theorem o_plain {P : jM → Int32 → Prop} {a : Int32} (h : cI M z) (hP : ∀ M', cI M' (sPlain z a).1 → P M' (sPlain z a).2) : JC x jtbC mX11_plain (d + 7) [.ref (x.2.2.2 0), .int a] M (jI P) := by
  obtain ⟨t9, trng, -⟩ := id h.ok
  have e14 : M.1 0 14 = nI (zTp z).1 := h.2.2.2.2.1
  have tx : ∀ k, k < (zTp z).1 → M.1 2 k = (zTp z).2 k := h.2.2.2.2.2.1
  have wds : ∀ k, k < 26 → M.2 14 k = qWord k := fun k hk => (h.2.2.2.2.2.2.2.2.2.2.2.2.2.2.1 k hk).1
  unfold sPlain at hP
  have z0 : (0 : Int32).toInt = 0 := by decide
  refine b_X11_plain (d := d + 6) ?_
  rw [e14, Int32.lt_iff_toInt_lt, Int32.le_iff_toInt_le, z0, nI_toInt (by omega)]
  refine ⟨fun c => ?_, fun c => ⟨fun c2 => ?_, fun c2 => ?_⟩⟩
  · rw [decide_eq_false (by omega)] at hP; exact c_refused h hP
  · rw [decide_eq_true ⟨by omega, c2⟩, if_pos rfl] at hP
    obtain ⟨n, nl, rfl⟩ : ∃ n, n ≤ (zTp z).1 ∧ a = nI n := ⟨a.toInt.toNat, by omega, Int32.toInt_inj.mp (by rw [nI_toInt (by omega)]; omega)⟩
    rw [nI_clamp (by omega)] at hP
    intro M2 e2
    have h2 : cI M2 (uTp z (0, (zTp z).2)) := h.setTp (n := 0) (f := (zTp z).2) (by rw [e2]; exact jsame.I (Or.inl rfl)) (fun k hk => by rw [e2, jrI_s, pk_un hk]) (by rw [e2, jrI_s, pk_us]; rfl) (by omega) (fun k hk => absurd hk (Nat.not_lt_zero _)) trng
    have r2 : M2.1 2 = M.1 2 := by rw [e2, jrI_n (by omega)]
    refine k_readPlain (f := (zTp z).2) (by omega) (fun k hk => by rw [r2]; exact tx k (by omega)) (fun k hk => by rw [e2]; exact wds k hk) (fun M3 pl e s1 p3 z6 z7 => ?_) (fun M3 er e s1 z6 z7 => ?_)
    · rw [e] at hP
      dsimp only at hP
      have h3 : cI M3 (uTp z (0, (zTp z).2)) := h2.scr (s1.mono (fun q hq => by unfold cPf at hq; unfold cScr; omega))
      refine k_tellFault (e := (0, -1)) (Or.inl rfl) h3 z6 z7 (fun M4 s4 h4 => ⟨fun _ => ?_, fun u => (by cases u)⟩)
      have p4 : cPl M4 4 pl := p3.keep (fun q q1 q2 => (s4 q (by omega)).1) (by rw [(s4 8 (by omega)).2])
      refine k_settle (d := d + 4) atC10_29 atC5_4 p4 (by omega) (fun M5 s5 w5 => ?_)
      have ok0 : oOk (qW0 pl).1 (qW0 pl).2.2 := fun u => absurd (show (0 : Int32) = 1 from u) (by decide)
      have h5 : cI M5 (uNw (uFa (uTp z (0, (zTp z).2)) (0, -1)) (qW0 pl)) := h4.setNw (s5.mono (fun q hq => by omega)) w5 ok0
      rw [show M5.1 30 2 = nI (qc pl) from w5.1.c]
      exact c_answered h5 hP
    · rw [e] at hP
      dsimp only at hP
      have h3 : cI M3 (uTp z (0, (zTp z).2)) := h2.scr (s1.mono (fun q hq => by unfold cPf at hq; unfold cScr; omega))
      exact k_tellFault (Or.inl rfl) h3 z6 z7 (fun M4 s4 h4 => ⟨fun u => (by cases u), fun _ => c_refused h4 hP⟩)
  · rw [decide_eq_false (by omega)] at hP; exact c_refused h hP
end OPL
