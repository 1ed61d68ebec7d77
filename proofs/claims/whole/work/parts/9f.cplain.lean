/-! the class reads a plain -/
section CPN
variable {x : jX} {d : Nat} {M : jM} {f : Nat → Int32} {n : Nat}
theorem cRt.keep {M' : jM} {p a : Nat} (h : cRt M p f n a) (h1 : M'.1 p = M.1 p) (h2 : M'.2 p = M.2 p) (h3 : M'.1 2 = M.1 2) (h4 : M'.2 (p + 1) = M.2 (p + 1)) : cRt M' p f n a := by
  obtain ⟨⟨t1, t2, t3, t4⟩, r, le⟩ := h
  refine ⟨⟨t1, fun k hk => by rw [h3]; exact t2 k hk, fun k hk => by rw [h4]; exact t3 k hk, t4⟩, ?_, le⟩
  unfold cRd
  rw [h1, h2]
  exact r
theorem k_readRow {P : jM → Bool → Prop} {o nn off many lo frm a : Nat} {g : Nat → Nat} (so : js jtbC o = (20, nn)) (hnn : nn < 2 ^ 31) (ho : 4 < o ∧ o < 11) (hoff : off + many ≤ nn) (hm : 1 ≤ many) (hlo : lo ≤ 1) (h0 : cRt M 13 f n a)
    (h1 : ∀ M' a' g', rRow f n lo frm many a 0 g = .inr (a', g') → jsame (fun q => q = 13 ∨ q = o) M M' → M'.2 o = M.2 o → (∀ k, (k = 6 ∨ k = 7) → M'.1 13 k = M.1 13 k) → (∀ k, (k < off ∨ off + many ≤ k) → M'.1 o k = M.1 o k) → (∀ i, i < many → M'.1 o (off + i) = nI (g' (frm + i))) → cRt M' 13 f n a' → P M' true)
    (h2 : ∀ M' e, rRow f n lo frm many a 0 g = .inl e → jsame (fun q => q = 13 ∨ q = o) M M' → M'.1 13 6 = e.1 → M'.1 13 7 = e.2 → P M' false) : JC x jtbC mX6_readRow (d + 3) [.ref (x.2.2.2 3), .ref (x.2.2.2 o), .int (nI off), .int (nI many), .int (nI lo)] M (jZ P) := by
  refine b_X6_readRow (d := d + 2) ?_
  have lt : (nI lo).toInt = (lo : Int) := nI_toInt (by omega)
  have t99 : (99 : Int32).toInt = ((99 : Nat) : Int) := by decide
  have main : ∀ r cnt a1 g1 M1, cnt + r = many → rRow f n lo frm r a1 cnt g1 = rRow f n lo frm many a 0 g → jsame (fun q => q = 13 ∨ q = o) M M1 → M1.2 o = M.2 o → (∀ k, (k = 6 ∨ k = 7) → M1.1 13 k = M.1 13 k) → (∀ k, (k < off ∨ off + many ≤ k) → M1.1 o k = M.1 o k) → (∀ i, i < cnt → M1.1 o (off + i) = nI (g1 (frm + i))) → cRt M1 13 f n a1 → JW x jtbC mX6_readRow (d + 3) (jZ P) 3 [(0, .ref (x.2.2.2 3)), (1, .ref (x.2.2.2 o)), (2, .int (nI off)), (3, .int (nI many)), (4, .int (nI lo)), (5, .int (nI cnt))] [] M1 := by
    intro r
    induction r with
    | zero =>
      intro cnt a1 g1 M1 hc hr s1 s2 s3 s4 s5 s6
      have kl := yK_le (f := f) (n := n) (a := a1)
      have rd := s6.2.1
      rw [rRow] at hr
      have flt : ∀ (k : Int32), rRow f n lo frm many a 0 g = .inl (yF f n a1 k) → JC x jtbC mX7_refuse (d + 2) [.ref (x.2.2.2 13), .int k] M1 (jZ fun M2 b1 => P M2 b1) := fun k e => k_refuse s6 (fun M2 c => h2 M2 _ e (s1.tr (c.1.mono (fun q hq => Or.inl hq))) c.2.1 c.2.2)
      refine b_X6_readRow_3 (pk_le many cnt (fun _ => b_X6_readRow_60 ?_) (fun c => absurd c (by omega)))
      rw [rd.2.2.2.2.1, show (3 : Int32) = nI 3 from rfl, show (4 : Int32) = nI 4 from rfl, nI_eq (by omega) (by omega), nI_eq (by omega) (by omega)]
      have semi : ¬ yK f n a1 = 3 → JC x jtbC mX7_takeSemicolon (d + 2) [.ref (x.2.2.2 13)] M1 (jZ fun M2 b1 => P M2 b1) := fun n3 => by
        rw [if_neg n3] at hr
        refine k_takeSemi s6 (fun y M2 c1 c2 => ?_) (fun y M2 c1 => ?_)
        · rw [if_pos y] at hr
          exact h1 M2 _ _ hr.symm (s1.tr (c1.1.mono (fun q hq => Or.inl hq))) (by rw [(c1.1 o (by omega)).2]; exact s2) (fun k hk => by rw [c1.2 k (by omega)]; exact s3 k hk) (fun k hk => by rw [(c1.1 o (by omega)).1]; exact s4 k hk) (fun i hi => by rw [(c1.1 o (by omega)).1]; exact s5 i (by omega)) c2
        · rw [if_neg y] at hr
          exact h2 M2 _ hr.symm (s1.tr (c1.1.mono (fun q hq => Or.inl hq))) c1.2.1 c1.2.2
      refine ⟨fun n3 => ⟨fun _ => b_X6_readRow_149 ⟨fun _ => semi n3, fun u => absurd rfl u⟩, fun k4 => ?_⟩, fun k3 => ?_⟩
      · exact ⟨fun _ => b_X6_readRow_149 ⟨fun _ => semi n3, fun u => absurd rfl u⟩, fun _ => b_X6_readRow_149 ⟨fun u => absurd u (by decide), fun _ => pk_le many cnt (fun _ => semi n3) (fun c => absurd c (by omega))⟩⟩
      · rw [if_pos k3] at hr
        have nl := yN_lt k3
        rw [rd.2.2.2.2.2.2.1 k3, Int32.lt_iff_toInt_lt, Int32.lt_iff_toInt_lt, lt, t99, nI_toInt (by omega)]
        refine ⟨fun c => b_X6_readRow_100 ⟨fun _ => flt 4 (by rw [← hr, if_neg (by omega)]), fun u => absurd rfl u⟩, fun c => ⟨fun c2 => b_X6_readRow_100 ⟨fun _ => flt 4 (by rw [← hr, if_neg (by omega)]), fun u => absurd rfl u⟩, fun c2 => b_X6_readRow_100 ⟨fun u => absurd u (by decide), fun _ => flt 6 (by rw [← hr, if_pos (by omega)])⟩⟩⟩
    | succ r ih =>
      intro cnt a1 g1 M1 hc hr s1 s2 s3 s4 s5 s6
      have kl := yK_le (f := f) (n := n) (a := a1)
      have rd := s6.2.1
      rw [rRow] at hr
      have take : (cnt = 0 ∨ yK f n a1 = 3) → JW x jtbC mX6_readRow (d + 3) (jZ P) 25 [(0, .ref (x.2.2.2 3)), (1, .ref (x.2.2.2 o)), (2, .int (nI off)), (3, .int (nI many)), (4, .int (nI lo)), (5, .int (nI cnt))] [] M1 := fun cc => by
        rw [if_pos cc] at hr
        refine b_X6_readRow_25 so hnn (k_takeNumber s6 (fun k3 r1 r2 M2 c1 c2 c3 c4 => ⟨fun _ => ⟨off + cnt, by omega, by rw [nI_add], ?_⟩, fun u => (by cases u)⟩) (fun k3 M2 c1 => ⟨fun u => (by cases u), fun _ => ?_⟩) (fun k3 nr M2 c1 => ⟨fun u => (by cases u), fun _ => ?_⟩))
        · intro M3 e3
          rw [lt] at r1
          rw [t99] at r2
          rw [if_pos k3, if_pos (by omega)] at hr
          rw [nI_1]
          have s31 : jsame (fun q => q = 13 ∨ q = o) M M3 := by rw [e3]; exact (s1.tr (c1.mono (fun q hq => Or.inl hq))).tr (jsame.I (Or.inr rfl))
          refine ih (cnt + 1) (yX f n a1) _ M3 (by omega) hr s31 ?_ (fun k hk => ?_) (fun k hk => ?_) (fun i hi => ?_) ?_
          · rw [e3]
            show M2.2 o = _
            rw [(c1 o (by omega)).2]; exact s2
          · rw [e3, jrI_n (by omega), c2 k hk]; exact s3 k hk
          · rw [e3, jrI_s, pk_un (by omega), (c1 o (by omega)).1]; exact s4 k hk
          · rw [e3, jrI_s, c3]
            unfold tset
            by_cases q : i = cnt
            · rw [q, pk_us, if_pos rfl]
            · rw [pk_un (by omega), if_neg (by omega), (c1 o (by omega)).1]; exact s5 i (by omega)
          · exact c4.keep (by rw [e3, jrI_n (by omega)]) (by rw [e3]; rfl) (by rw [e3, jrI_n (by omega)]) (by rw [e3]; rfl)
        · rw [if_neg k3] at hr
          exact h2 M2 _ hr.symm (s1.tr (c1.1.mono (fun q hq => Or.inl hq))) c1.2.1 c1.2.2
        · rw [lt, t99] at nr
          rw [if_pos k3, if_neg (by omega)] at hr
          exact h2 M2 _ hr.symm (s1.tr (c1.1.mono (fun q hq => Or.inl hq))) c1.2.1 c1.2.2
      refine b_X6_readRow_3 (pk_le many cnt (fun c => absurd c (by omega)) (fun _ => ?_))
      rw [nI_eq0 (by omega), rd.2.2.2.2.1, show (3 : Int32) = nI 3 from rfl, nI_eq (by omega) (by omega)]
      refine ⟨fun c0 => take (Or.inl c0), fun c0 => ⟨fun n3 => b_X6_readRow_60 ?_, fun k3 => take (Or.inr k3)⟩⟩
      rw [if_neg (fun u => u.elim c0 n3)] at hr
      rw [rd.2.2.2.2.1, show (3 : Int32) = nI 3 from rfl, show (4 : Int32) = nI 4 from rfl, nI_eq (by omega) (by omega), nI_eq (by omega) (by omega)]
      have semi : ¬ (yK f n a1 = 4 ∧ yG f n a1 = 59) → JC x jtbC mX7_takeSemicolon (d + 2) [.ref (x.2.2.2 13)] M1 (jZ fun M2 b1 => P M2 b1) := fun no => by
        rw [if_neg no] at hr
        exact k_takeSemi s6 (fun y => absurd y no) (fun y M2 c1 => h2 M2 _ hr.symm (s1.tr (c1.1.mono (fun q hq => Or.inl hq))) c1.2.1 c1.2.2)
      refine ⟨fun _ => ⟨fun k4 => b_X6_readRow_149 ⟨fun _ => semi (fun u => k4 u.1), fun u => absurd rfl u⟩, fun k4 => ?_⟩, fun k3 => absurd k3 n3⟩
      rw [rd.2.2.2.2.2.2.2.1 k4]
      refine ⟨fun g59 => b_X6_readRow_149 ⟨fun _ => semi (fun u => g59 u.2), fun u => absurd rfl u⟩, fun g59 => b_X6_readRow_149 ⟨fun u => absurd u (by decide), fun _ => pk_le many cnt (fun c => absurd c (by omega)) (fun _ => ?_)⟩⟩
      rw [if_pos ⟨k4, g59⟩] at hr
      exact k_refuse s6 (fun M2 c => h2 M2 _ hr.symm (s1.tr (c.1.mono (fun q hq => Or.inl hq))) c.2.1 c.2.2)
  exact main many 0 a g M (by omega) rfl jsame.rf rfl (fun _ _ => rfl) (fun _ _ => rfl) (fun i hi => absurd hi (Nat.not_lt_zero _)) h0
/-- the class while it reads a plain -/
def cPS (M : jM) (f : Nat → Int32) (n a : Nat) (st : qPS) : Prop := cRt M 13 f n a ∧ cPl M 4 st.1 ∧ M.1 3 2 = nI st.2.1 ∧ M.1 3 3 = nI st.2.2.1 ∧ M.1 3 4 = nI st.2.2.2 ∧ M.1 13 6 = 0 ∧ M.1 13 7 = -1 ∧ pWf st
def cPf (q : Nat) : Prop := 3 ≤ q ∧ q ≤ 13
theorem yWx_eq {i k : Nat} (hi : i ≤ 26) (hk : k < 26) : yWx i = nI k ↔ i = k := by
  unfold yWx
  by_cases q : i < 26
  · rw [if_pos q, nI_eq (by omega) (by omega)]
  · rw [if_neg q]
    exact ⟨fun u => absurd u.symm (nI_ne1 (by omega)), fun u => by omega⟩
theorem k_readCells {P : jM → Bool → Prop} {a r cnt lo : Nat} {pl : qP} (hr : r < 3) (hlo : lo ≤ 1) (h0 : cRt M 13 f n a) (hp : cPl M 4 pl) (hw : 1 ≤ qw pl) (hc : cnt ≤ qh pl)
    (h1 : ∀ M' a' pl', pCells f n a pl r cnt lo = .inr (a', pl') → jsame (fun q => q = 13 ∨ q = 5 + r) M M' → (∀ k, (k = 6 ∨ k = 7) → M'.1 13 k = M.1 13 k) → cRt M' 13 f n a' → cPl M' 4 pl' → P M' true)
    (h2 : ∀ M' e, pCells f n a pl r cnt lo = .inl e → jsame (fun q => q = 13 ∨ q = 5 + r) M M' → M'.1 13 6 = e.1 → M'.1 13 7 = e.2 → P M' false) : JC x jtbC mX6_readCells (d + 4) [.ref (x.2.2.2 3), .ref (x.2.2.2 (5 + r)), .int (nI (cnt + 1)), .int (nI lo)] M (jZ P) := by
  have w := hp.wf
  have w5 := w.1
  have hh5 := w.2.1
  have e40 : M.1 4 0 = nI (qw pl) := hp.w
  have e41 : M.1 4 1 = nI (qh pl) := hp.h
  have so : js jtbC (5 + r) = (20, 25) := by
    rcases (show r = 0 ∨ r = 1 ∨ r = 2 by omega) with rfl | rfl | rfl
    · exact sC_5
    · exact sC_6
    · exact sC_7
  unfold pCells at h1 h2
  refine b_X6_readCells (d := d + 3) ?_
  rw [e41]
  refine pk_le (cnt + 1) (qh pl) (fun c => ?_) (fun c => ?_)
  · rw [if_neg (by omega)] at h1 h2
    have area : cnt * qw pl + qw pl ≤ 25 := by
      have : (cnt + 1) * qw pl ≤ 5 * 5 := Nat.mul_le_mul (by omega) w5
      rw [Nat.succ_mul] at this
      exact this
    refine k_stepOn h0 (fun M1 g1 g2 => ?_)
    have f40 : M1.1 4 0 = nI (qw pl) := by rw [(g1.1 4 (by omega)).1]; exact e40
    rw [f40, show (1 : Int32) = nI 1 from rfl, pk_sub (by omega), pk_mul, show cnt + 1 - 1 = cnt by omega]
    have rowg : ∀ k, k < 25 → M1.1 (5 + r) k = nI (pl.2.1 r k) := fun k hk => by
      rw [(g1.1 (5 + r) (by omega)).1]
      rcases (show r = 0 ∨ r = 1 ∨ r = 2 by omega) with rfl | rfl | rfl
      · exact hp.most hk
      · exact hp.least hk
      · exact hp.price hk
    refine k_readRow (d := d) (frm := cnt * qw pl) (g := pl.2.1 r) so (by decide) (by omega) area hw hlo g2 (fun M2 a' g' e s1 s2 s3 s4 s5 s6 => ?_) (fun M2 e he s1 s6 s7 => ?_)
    · have pe : rMap (rRow f n lo (cnt * qw pl) (qw pl) (yX f n a) 0 (pl.2.1 r)) (pRowSet pl r) = .inr (a', pRowSet pl r g') := by rw [e]; rfl
      obtain ⟨q1, q2, q3, q4⟩ := rRow_ok _ (yX_le h0.2.2) e
      have s12 : jsame (fun q => q = 13 ∨ q = 5 + r) M M2 := (g1.1.mono (fun q hq => Or.inl hq)).tr s1
      have row2 : ∀ k, k < 25 → M2.1 (5 + r) k = nI (g' k) := fun k hk => by
        by_cases u : k < cnt * qw pl ∨ cnt * qw pl + qw pl ≤ k
        · rw [s4 k u, q3 k (by omega)]; exact rowg k hk
        · have := s5 (k - cnt * qw pl) (by omega)
          rw [show cnt * qw pl + (k - cnt * qw pl) = k by omega] at this
          exact this
      have wf' : qWf (pRowSet pl r g') := pRow_wf w hr (fun k => by
        by_cases u : k < cnt * qw pl + 0 ∨ cnt * qw pl + 0 + qw pl ≤ k
        · rw [q3 k u]; exact row_le w hr k
        · exact (q4 k (by omega) (by omega)).2)
      have keepRow : ∀ q, q ≠ 13 → q ≠ 5 + r → M2.1 q = M.1 q := fun q u1 u2 => (s12 q (by omega)).1
      refine h1 M2 a' _ pe s12 (fun k hk => by rw [s3 k hk]; exact g1.2 k (by omega)) s6 ?_
      have get : ∀ r', r' < 3 → ∀ c, c < 25 → M2.1 (5 + r') c = nI ((pRowSet pl r g').2.1 r' c) := fun r' hr' c hc => by
        show _ = nI ((if r' = r then g' else pl.2.1 r') c)
        by_cases u : r' = r
        · rw [if_pos u, u]; exact row2 c hc
        · rw [if_neg u, keepRow (5 + r') (by omega) (by omega)]
          rcases (show r' = 0 ∨ r' = 1 ∨ r' = 2 by omega) with rfl | rfl | rfl
          · exact hp.most hc
          · exact hp.least hc
          · exact hp.price hc
      refine ⟨by rw [keepRow 4 (by omega) (by omega)]; exact hp.w, by rw [keepRow 4 (by omega) (by omega)]; exact hp.h, by rw [keepRow 4 (by omega) (by omega)]; exact hp.c, by rw [keepRow 4 (by omega) (by omega)]; exact hp.n, by rw [keepRow 4 (by omega) (by omega)]; exact hp.k, get 0 (by omega), get 1 (by omega), get 2 (by omega), fun v hv => ?_, fun v hv => ?_, fun v s hv hk hs => ?_, fun side c hs hc => ?_, wf'⟩
      · rw [(s12 8 (by omega)).2]; exact hp.name hv
      · rw [keepRow 9 (by omega) (by omega)]
        show _ = nI ((if 3 = r then g' else pl.2.1 3) v)
        rw [if_neg (by omega)]; exact hp.side hv
      · rw [keepRow 10 (by omega) (by omega)]
        show _ = nI ((if 4 + v = r then g' else pl.2.1 (4 + v)) s)
        rw [if_neg (by omega)]
        refine hp.line hv hk ?_
        have : qSt (pRowSet pl r g') v = qSt pl v := by
          show qS (qw pl) (qh pl) ((if 3 = r then g' else pl.2.1 3) v) = _
          rw [if_neg (by omega)]; rfl
        rw [← this]; exact hs
      · rw [keepRow 11 (by omega) (by omega)]; exact hp.strip hs hc
    · refine h2 M2 e ?_ ((g1.1.mono (fun q hq => Or.inl hq)).tr s1) s6 s7
      rw [he]; rfl
  · rw [if_pos (by omega)] at h1 h2
    exact k_refuse h0 (fun M' g => h2 M' _ rfl (g.1.mono (fun q hq => Or.inl hq)) g.2.1 g.2.2)
end CPN
