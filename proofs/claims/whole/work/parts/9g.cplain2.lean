theorem vil_line {pl : qP} {N : Int64} {S v s : Nat} : qLine (pVilAdd pl N S) v s = qLine pl v s := by
  show (if 4 + v = 3 then tset (pl.2.1 3) (qn pl) S else pl.2.1 (4 + v)) s = _
  rw [if_neg (by omega)]; rfl
theorem sky_row {pl : qP} {v r : Nat} {g : Nat → Nat} (h : r < 4) : (pSkyAdd pl v g).2.1 r = pl.2.1 r := if_neg (by omega)
theorem sky_most {pl : qP} {v c : Nat} {g : Nat → Nat} : qMost (pSkyAdd pl v g) c = qMost pl c := congrFun (sky_row (by decide)) c
theorem sky_least {pl : qP} {v c : Nat} {g : Nat → Nat} : qLeast (pSkyAdd pl v g) c = qLeast pl c := congrFun (sky_row (by decide)) c
theorem sky_price {pl : qP} {v c : Nat} {g : Nat → Nat} : qPrice (pSkyAdd pl v g) c = qPrice pl c := congrFun (sky_row (by decide)) c
theorem sky_side {pl : qP} {v c : Nat} {g : Nat → Nat} : qSide (pSkyAdd pl v g) c = qSide pl c := congrFun (sky_row (by decide)) c
theorem sky_st {pl : qP} {v c : Nat} {g : Nat → Nat} : qSt (pSkyAdd pl v g) c = qSt pl c := by
  unfold qSt
  rw [sky_side]; rfl
section CP2
variable {x : jX} {d : Nat} {M : jM} {f : Nat → Int32} {n : Nat}
theorem k_stripsOfW {P : jM → Int32 → Prop} {w h side v : Nat} (e0 : M.1 4 0 = nI w) (e1 : M.1 4 1 = nI h) (e2 : M.1 4 2 = nI (w * h)) (w1 : 1 ≤ w) (w5 : w ≤ 5) (h1 : 1 ≤ h) (h5 : h ≤ 5) (hv : v < 6) (es : M.1 9 v = nI side) (hs : side < 8) (hP : P M (nI (qS w h side))) : JC x jtbC mX5_stripsOf (d + 1) [.ref (x.2.2.2 4), .int (nI v)] M (jI P) := by
  refine b_X5_stripsOf atC5_4 ⟨v, hv, rfl, ?_⟩
  rw [show M.1 (4 + 5) v = nI side from es]
  refine b_X5_stripsFrom atC5_4 ?_
  rw [e0, e1, e2]
  have pos : 0 < w * h := Nat.mul_pos (by omega) (by omega)
  have le : w * h ≤ 5 * 5 := Nat.mul_le_mul w5 h5
  refine ⟨fun _ => ?_, fun c => absurd ((nI_eq (b := 0) (by omega) (by omega)).mp c) (by omega)⟩
  have e : nI w + nI h - 1 = nI (w + h - 1) := by rw [nI_add, jn1, pk_sub (by omega)]
  simp only [e]
  rcases (show side = 0 ∨ side = 1 ∨ side = 2 ∨ side = 3 ∨ side = 4 ∨ side = 5 ∨ side = 6 ∨ side = 7 by omega) with rfl | rfl | rfl | rfl | rfl | rfl | rfl | rfl <;> simp [qS] at hP <;> simp [nI] <;> exact hP
theorem k_isName {P : jM → Bool → Prop} {p a : Nat} (h0 : cRt M p f n a) (h : P M (yNm f n a)) : JC x jtbC mX7_isName d [.ref (x.2.2.2 p)] M (jZ P) := by
  have a0 := aX7_at h0.1.2.2.2
  have kl := yK_le (f := f) (n := n) (a := a)
  have il := yI_le (f := f) (n := n) (a := a)
  have rd := h0.2.1
  have n9 := h0.1.1
  unfold yNm at h
  refine b_X7_isName a0 ?_
  rw [rd.2.2.2.2.1, show (2 : Int32) = nI 2 from rfl, nI_eq (by omega) (by omega)]
  refine ⟨fun c => by rw [decide_eq_false (fun u => c u.1)] at h; exact h, fun c => ?_⟩
  have ll : yLt f n a ≤ 900 := by
    have : yLt f n a ≤ n - yP f n a := yRun_le _ _ _ _
    omega
  rw [(rd.2.2.2.2.2.2.2.2 c).2]
  refine pk_lt 8 (yLt f n a) (fun g => by rw [decide_eq_false (fun u => by omega)] at h; exact h) (fun g => ?_)
  rw [rd.2.2.2.2.2.1]
  unfold yWx
  by_cases q : yI f n a < 26
  · rw [if_pos q]
    exact ⟨fun _ => by rw [decide_eq_false (fun u => by omega)] at h; exact h, fun u => absurd u (nI_ne1 (by omega))⟩
  · rw [if_neg q]
    exact ⟨fun u => absurd rfl u, fun _ => by rw [decide_eq_true ⟨c, g, by omega⟩] at h; exact h⟩
theorem k_isSide {P : jM → Bool → Prop} {p a : Nat} (h0 : cRt M p f n a) (h : P M (decide (18 ≤ yI f n a ∧ yI f n a < 26))) : JC x jtbC mX7_isSide d [.ref (x.2.2.2 p)] M (jZ P) := by
  have a0 := aX7_at h0.1.2.2.2
  refine b_X7_isSide a0 ?_
  rw [h0.2.1.2.2.2.2.2.1]
  unfold yWx
  by_cases q : yI f n a < 26
  · rw [if_pos q]
    exact pk_lt (yI f n a) 18 (fun c => by rw [decide_eq_false (by omega)] at h; exact h) (fun c => by rw [decide_eq_true ⟨c, q⟩] at h; exact h)
  · rw [if_neg q]
    exact ⟨fun _ => by rw [decide_eq_false (fun u => q u.2)] at h; exact h, fun c => absurd (by decide) c⟩
theorem k_readVillage {P : jM → Bool → Prop} {a : Nat} {pl : qP} (h0 : cRt M 13 f n a) (hp : cPl M 4 pl) (hw : 1 ≤ qw pl) (hh : 1 ≤ qh pl)
    (h1 : ∀ M' a' pl', pVill f n a pl = .inr (a', pl') → jsame (fun q => 4 ≤ q ∧ q ≤ 13) M M' → (∀ k, (k = 6 ∨ k = 7) → M'.1 13 k = M.1 13 k) → cRt M' 13 f n a' → cPl M' 4 pl' → P M' true)
    (h2 : ∀ M' e, pVill f n a pl = .inl e → jsame (fun q => 4 ≤ q ∧ q ≤ 13) M M' → M'.1 13 6 = e.1 → M'.1 13 7 = e.2 → P M' false) : JC x jtbC mX6_readVillage (d + 4) [.ref (x.2.2.2 3)] M (jZ P) := by
  have w := hp.wf
  have w5 := w.1
  have hh5 := w.2.1
  have h6 := w.2.2.2.1
  have kn := w.2.2.2.2.1
  have e43 : M.1 4 3 = nI (qn pl) := hp.n
  unfold pVill at h1 h2
  refine b_X6_readVillage (d := d + 3) ?_
  rw [e43]
  refine pk_lt (qn pl) 6 (fun lt6 => ?_) (fun ge6 => ?_)
  · rw [if_neg (by omega)] at h1 h2
    refine k_stepOn h0 (fun M1 g1 r1 => k_isName r1 ⟨fun nm => ?_, fun nm => ?_⟩)
    · rw [if_pos nm] at h1 h2
      have nmm := of_decide_eq_true nm
      have hp1 : cPl M1 4 pl := hp.keep (fun q q1 q2 => (g1.1 q (by omega)).1) (by rw [(g1.1 8 (by omega)).2])
      have nv : M1.2 13 4 = lN (yV f n (yX f n a)) := (r1.2.1.2.2.2.2.2.2.2.2 nmm.1).1
      rw [nv]
      refine k_villageNamed atC5_4 hp1 ?_
      by_cases old : qNm pl (lN (yV f n (yX f n a))) < qn pl
      · rw [if_pos old] at h1 h2 ⊢
        refine ⟨fun u => absurd u (nI_ne1 (by omega)), fun _ => k_refuse r1 (fun M2 c => h2 M2 _ rfl ?_ c.2.1 c.2.2)⟩
        exact (g1.1.mono (fun q hq => by omega)).tr (c.1.mono (fun q hq => by omega))
      · rw [if_neg old] at h1 h2 ⊢
        refine ⟨fun _ => ⟨qn pl, by omega, rfl, ?_⟩, fun u => absurd rfl u⟩
        intro M4 e4
        have r4 : cRt M4 13 f n (yX f n a) := r1.keep (by rw [e4]; rfl) (by rw [e4, jrL_n (by omega)]) (by rw [e4]; rfl) (by rw [e4, jrL_n (by omega)])
        have s4 : jsame (fun q => 4 ≤ q ∧ q ≤ 13) M M4 := by rw [e4]; exact (g1.1.mono (fun q hq => by omega)).tr (jsame.L (by omega))
        have k4 : ∀ k, (k = 6 ∨ k = 7) → M4.1 13 k = M.1 13 k := fun k hk => by rw [e4]; exact g1.2 k (by omega)
        refine k_stepOn r4 (fun M5 g5 r5 => k_isSide r5 ⟨fun sd => ?_, fun sd => ?_⟩)
        · have sd' := of_decide_eq_true sd
          rw [if_pos sd'] at h1 h2
          intro M7 e7 M8 e8
          have x3 : M5.1 13 3 = nI (yI f n (yX f n (yX f n a))) := by
            rw [r5.2.1.2.2.2.2.2.1]
            unfold yWx
            rw [if_pos sd'.2]
          rw [x3, show (18 : Int32) = nI 18 from rfl, pk_sub sd'.1] at e7
          have rows5 : ∀ q, q ≠ 13 → M5.1 q = M.1 q := fun q hq => by rw [(g5.1 q hq).1, e4]; exact (g1.1 q hq).1
          have r8 : cRt M8 13 f n (yX f n (yX f n a)) := r5.keep (by rw [e8, jrI_n (by omega), e7, jrI_n (by omega)]) (by rw [e8, e7]; rfl) (by rw [e8, jrI_n (by omega), e7, jrI_n (by omega)]) (by rw [e8, e7]; rfl)
          have s8 : jsame (fun q => 4 ≤ q ∧ q ≤ 13) M M8 := by rw [e8, e7]; exact ((s4.tr (g5.1.mono (fun q hq => by omega))).tr (jsame.I (by omega))).tr (jsame.I (by omega))
          have k8 : ∀ k, (k = 6 ∨ k = 7) → M8.1 13 k = M.1 13 k := fun k hk => by rw [e8, jrI_n (by omega), e7, jrI_n (by omega), g5.2 k (by omega)]; exact k4 k hk
          -- the plain with its new village
          generalize hS : yI f n (yX f n (yX f n a)) - 18 = S at *
          have S8 : S < 8 := by omega
          generalize hN : lN (yV f n (yX f n a)) = N at *
          have w1 := pVilAdd_wf (nm := N) (side := S) w hw lt6 S8
          have d8 : ∀ q, q ≠ 13 → q ≠ 9 → q ≠ 4 → M8.1 q = M.1 q := fun q u1 u2 u3 => by rw [e8, jrI_n u3, e7, jrI_n u2]; exact rows5 q u1
          have d4 : ∀ k, k ≠ 3 → M8.1 4 k = M.1 4 k := fun k hk => by rw [e8, jrI_s, pk_un hk, e7, jrI_n (by omega)]; exact congrFun (rows5 4 (by omega)) k
          have c43 : M8.1 4 3 = nI (qn pl + 1) := by
            rw [e8, jrI_s, pk_us, e7, jrI_n (by omega), rows5 4 (by omega), e43, nI_1]
          have c9 : ∀ v, v < qn pl + 1 → M8.1 9 v = nI (tset (pl.2.1 3) (qn pl) S v) := fun v hv => by
            rw [e8, jrI_n (by omega), e7, jrI_s]
            unfold tset
            by_cases q : v = qn pl
            · rw [q, pk_us, if_pos rfl]
            · rw [pk_un q, if_neg q, rows5 9 (by omega)]; exact hp.side (by omega)
          have c8 : ∀ v, v < qn pl + 1 → M8.2 8 v = (if v = qn pl then N else pl.2.2 v) := fun v hv => by
            have e : M8.2 8 = vp_updL (M1.2 8) (qn pl) N := by
              rw [e8]
              show M7.2 8 = _
              rw [e7]
              show M5.2 8 = _
              rw [(g5.1 8 (by omega)).2, e4, jrL_s, nv]
            rw [e]
            by_cases q : v = qn pl
            · rw [q, pk_uLs, if_pos rfl]
            · rw [pk_uLn q, if_neg q]; exact hp1.name (by omega)
          have st1 : ∀ v, v < qn pl → qSt (pVilAdd pl N S) v = qSt pl v := fun v hv => by
            show qS (qw pl) (qh pl) (tset (pl.2.1 3) (qn pl) S v) = _
            unfold tset
            rw [if_neg (by omega)]; rfl
          have hp8 : cPl M8 4 (pVilAdd pl N S) := by
            refine ⟨by rw [d4 0 (by omega)]; exact hp.w, by rw [d4 1 (by omega)]; exact hp.h, by rw [d4 2 (by omega)]; exact hp.c, c43, by rw [d4 4 (by omega)]; exact hp.k, fun c hc => by rw [d8 5 (by omega) (by omega) (by omega)]; exact hp.most hc, fun c hc => by rw [d8 6 (by omega) (by omega) (by omega)]; exact hp.least hc, fun c hc => by rw [d8 7 (by omega) (by omega) (by omega)]; exact hp.price hc, c8, c9, fun v s hv hk hs => ?_, fun side c hs hc => by rw [d8 11 (by omega) (by omega) (by omega)]; exact hp.strip hs hc, w1⟩
            have hk' : (qk pl).testBit v = true := hk
            have vl : v < qn pl := bit_lt kn hk'
            rw [d8 10 (by omega) (by omega) (by omega), vil_line]
            exact hp.line vl hk' (by rw [← st1 v vl]; exact hs)
          refine k_stepOn r8 (fun M9 g9 r9 => ?_)
          have hp9 : cPl M9 4 (pVilAdd pl N S) := hp8.keep (fun q q1 q2 => (g9.1 q (by omega)).1) (by rw [(g9.1 8 (by omega)).2])
          have s9 : jsame (fun q => 4 ≤ q ∧ q ≤ 13) M M9 := s8.tr (g9.1.mono (fun q hq => by omega))
          have k9 : ∀ k, (k = 6 ∨ k = 7) → M9.1 13 k = M.1 13 k := fun k hk => by rw [g9.2 k (by omega)]; exact k8 k hk
          unfold pSees at h1 h2
          generalize yX f n (yX f n (yX f n a)) = A at *
          rw [r9.2.1.2.2.2.2.2.1, show (5 : Int32) = nI 5 from rfl, yWx_eq yI_le (by decide)]
          refine ⟨fun see => ?_, fun nsee => ?_⟩
          · rw [if_pos see] at h1 h2
            have e94 : M9.1 4 4 = nI (qk pl) := hp9.k
            have qk64 := qk_lt w
            intro M10 e10
            rw [e94, nI_set (by omega)] at e10
            have r10 : cRt M10 13 f n A := r9.keep (by rw [e10, jrI_n (by omega)]) (by rw [e10]; rfl) (by rw [e10, jrI_n (by omega)]) (by rw [e10]; rfl)
            refine k_stepOn r10 (fun M11 g11 r11 => ?_)
            have d11 : ∀ q, q ≠ 13 → q ≠ 4 → M11.1 q = M9.1 q := fun q u1 u2 => by rw [(g11.1 q u1).1, e10, jrI_n u2]
            have f4 : ∀ k, k ≠ 4 → M11.1 4 k = M9.1 4 k := fun k hk => by rw [(g11.1 4 (by omega)).1, e10, jrI_s, pk_un hk]
            have f44 : M11.1 4 4 = nI (qk pl ||| 2 ^ qn pl) := by rw [(g11.1 4 (by omega)).1, e10, jrI_s, pk_us]
            have side9 : M11.1 9 (qn pl) = nI S := by
              rw [d11 9 (by omega) (by omega)]
              have := hp9.side (v := qn pl) (show qn pl < qn pl + 1 by omega)
              refine this.trans ?_
              show nI (tset (pl.2.1 3) (qn pl) S (qn pl)) = _
              unfold tset
              rw [if_pos rfl]
            have stE : qSt (pVilAdd pl N S) (qn pl) = qS (qw pl) (qh pl) S := by
              show qS (qw pl) (qh pl) (tset (pl.2.1 3) (qn pl) S (qn pl)) = _
              unfold tset
              rw [if_pos rfl]
            refine k_stripsOfW (w := qw pl) (h := qh pl) (by rw [f4 0 (by omega)]; exact hp9.w) (by rw [f4 1 (by omega)]; exact hp9.h) (by rw [f4 2 (by omega)]; exact hp9.c) hw w5 hh hh5 lt6 side9 S8 ?_
            rw [← stE]
            have st9 := qSt_le w1 (qn pl)
            have stp : 1 ≤ qSt (pVilAdd pl N S) (qn pl) := by
              rw [stE]
              unfold qS
              split
              · omega
              · split <;> omega
            rw [show (9 : Int32) = nI 9 from rfl, pk_mul]
            refine k_readRow (d := d) (frm := 0) (lo := 0) (g := (pVilAdd pl N S).2.1 (4 + qn pl)) sC_10 (by decide) (by omega) (by omega) stp (by omega) r11 (fun M12 a' g' e t1 t2 t3 t4 t5 t6 => ?_) (fun M12 e he t1 t2 t3 => ?_)
            · obtain ⟨q1, q2, q3, q4⟩ := rRow_ok _ (yX_le r9.2.2) e
              have s11 : jsame (fun q => 4 ≤ q ∧ q ≤ 13) M M11 := s9.tr (fun q hq => by
                have u1 := g11.1 q (by omega)
                rw [e10] at u1
                exact ⟨by rw [u1.1, jrI_n (by omega)], u1.2⟩)
              have wS : qWf (pSkyAdd (pVilAdd pl N S) (qn pl) g') := pSkyAdd_wf w1 (show qn pl < qn pl + 1 by omega) (fun k => by
                by_cases u : k < 0 + 0 ∨ 0 + 0 + qSt (pVilAdd pl N S) (qn pl) ≤ k
                · rw [q3 k u]; exact w1.2.2.2.2.2.2.2.2.2.2 (qn pl) k
                · exact (q4 k (by omega) (by omega)).2)
              refine h1 M12 a' (pSkyAdd (pVilAdd pl N S) (qn pl) g') (by rw [e]; rfl) (s11.tr (t1.mono (fun q hq => by omega))) (fun k hk => ?_) t6 ?_
              · rw [t3 k hk, g11.2 k (by omega), e10, jrI_n (by omega)]; exact k9 k hk
              · have d12 : ∀ q, q ≠ 13 → q ≠ 10 → M12.1 q = M11.1 q := fun q u1 u2 => (t1 q (by omega)).1
                refine ⟨by rw [d12 4 (by omega) (by omega), f4 0 (by omega)]; exact hp9.w, by rw [d12 4 (by omega) (by omega), f4 1 (by omega)]; exact hp9.h, by rw [d12 4 (by omega) (by omega), f4 2 (by omega)]; exact hp9.c, by rw [d12 4 (by omega) (by omega), f4 3 (by omega)]; exact hp9.n, by rw [d12 4 (by omega) (by omega)]; exact f44, fun c hc => by rw [d12 5 (by omega) (by omega), d11 5 (by omega) (by omega), sky_most]; exact hp9.most hc, fun c hc => by rw [d12 6 (by omega) (by omega), d11 6 (by omega) (by omega), sky_least]; exact hp9.least hc, fun c hc => by rw [d12 7 (by omega) (by omega), d11 7 (by omega) (by omega), sky_price]; exact hp9.price hc, fun v hv => ?_, fun v hv => by rw [d12 9 (by omega) (by omega), d11 9 (by omega) (by omega), sky_side]; exact hp9.side hv, fun v s hv hk hs => ?_, fun side c hs hc => by rw [d12 11 (by omega) (by omega), d11 11 (by omega) (by omega)]; exact hp9.strip hs hc, wS⟩
                · rw [(t1 8 (by omega)).2, (g11.1 8 (by omega)).2, e10]
                  show M9.2 8 v = _
                  exact hp9.name hv
                · have hv' : v < qn pl + 1 := hv
                  have hs' : s < qSt (pVilAdd pl N S) v := by rw [sky_st] at hs; exact hs
                  show M12.1 10 (v * 9 + s) = nI ((if 4 + v = 4 + qn pl then g' else (pVilAdd pl N S).2.1 (4 + v)) s)
                  have s9' := qSt_le w1 v
                  by_cases u : v = qn pl
                  · rw [u, if_pos rfl]
                    rw [u] at hs'
                    have := t5 s hs'
                    rw [Nat.zero_add] at this
                    exact this
                  · rw [if_neg (by omega), t4 _ (by omega), d11 10 (by omega) (by omega)]
                    have hk2 : (qk pl).testBit v = true := by
                      have hk' : (qk pl ||| 2 ^ qn pl).testBit v = true := hk
                      rw [fb_bit_set, decide_eq_false u, Bool.or_false] at hk'
                      exact hk'
                    exact hp9.line hv hk2 hs'
            · refine h2 M12 e (by rw [he]; rfl) (s9.tr (fun q hq => ?_)) t2 t3
              have u1 := g11.1 q (by omega)
              have u2 := t1 q (by omega)
              rw [e10] at u1
              exact ⟨by rw [u2.1, u1.1, jrI_n (by omega)], u2.2.trans u1.2⟩
          · rw [if_neg nsee] at h1 h2
            refine k_takeSemi r9 (fun y M10 c1 c2 => ?_) (fun y M10 c1 => ?_)
            · rw [if_pos y] at h1
              exact h1 M10 _ _ rfl (s9.tr (c1.1.mono (fun q hq => by omega))) (fun k hk => by rw [c1.2 k (by omega)]; exact k9 k hk) c2 (hp9.keep (fun q q1 q2 => (c1.1 q (by omega)).1) (by rw [(c1.1 8 (by omega)).2]))
            · rw [if_neg y] at h2
              exact h2 M10 _ rfl (s9.tr (c1.1.mono (fun q hq => by omega))) c1.2.1 c1.2.2
        · rw [if_neg (of_decide_eq_false sd)] at h1 h2
          exact k_refuse r5 (fun M6 c => h2 M6 _ rfl ((s4.tr (g5.1.mono (fun q hq => by omega))).tr (c.1.mono (fun q hq => by omega))) c.2.1 c.2.2)
    · rw [nm] at h1 h2
      exact k_refuse r1 (fun M2 c => h2 M2 _ rfl ((g1.1.mono (fun q hq => by omega)).tr (c.1.mono (fun q hq => by omega))) c.2.1 c.2.2)
  · rw [if_pos ge6] at h1 h2
    exact k_refuse h0 (fun M' g => h2 M' _ rfl (g.1.mono (fun q hq => by omega)) g.2.1 g.2.2)
end CP2
