section OR2
variable {x : jX} {d : Nat} {M : jM} {z : qZ}
theorem qOc_lt {pl : qP} {f g : Nat → Nat} (w : qWf pl) (hg : qAlk pl f g = true) (k m : Nat) (hm : m ≤ qUn f g (qc pl)) : qOc pl f g m k < 25 := by
  unfold qOc
  have h25 := w.c25
  split
  · next q =>
    have := (order_run hg k (by omega)).2.2.2 (by omega)
    omega
  · omega
theorem k_findOrder {P : jM → Prop} {f g : Nat → Nat} (h : cI M z) (hf : ∀ c, c < qc (zP z) → M.1 63 c = nI (f c)) (bf : ∀ c, f c ≤ 99) (hg : ∀ c, c < qc (zP z) → M.1 64 c = nI (g c)) (bg : ∀ c, g c ≤ 99) (ha : qAlk (zP z) f g = true) (hn : qUn f g (qc (zP z)) ≤ 12)
    (hP : ∀ M', cI M' (uOr z (qUn f g (qc (zP z)), qOc (zP z) f g (qUn f g (qc (zP z))))) → P M') : JC x jtbC mX0_findOrder (d + 6) [.ref (x.2.2.2 62), .ref (x.2.2.2 30)] M (jV P) := by
  have w := h.pl.wf
  have h25 := w.c25
  refine b_X0_findOrder (k_cellsUnlike h.pl hf bf hg bg ?_)
  refine k_minN (b := 12) (by omega) (by omega) ⟨qc (zP z), h.pl.c, by omega, by omega, ?_⟩
  rw [Nat.min_eq_left hn]
  intro M3 e3
  have h3 : cI M3 z := by rw [e3]; exact h.scr ((jsame.I (S := fun q => q = 69) rfl).mono (fun q hq => by unfold cScr; omega))
  have r69 : ∀ c, c < qc (zP z) → M3.1 69 c = nI (g c) := fun c hc => by rw [e3, jrI_s, va_cpy0 hc]; exact hg c hc
  have r63 : ∀ c, c < qc (zP z) → M3.1 63 c = nI (f c) := fun c hc => by rw [e3, jrI_n (by omega)]; exact hf c hc
  clear e3
  refine ⟨qc (zP z), h3.pl.c, by omega, by omega, ?_⟩
  intro M4 e4
  have h4 : cI M4 z := by rw [e4]; exact h3.scr ((jsame.I (S := fun q => q = 64) rfl).mono (fun q hq => by unfold cScr; omega))
  have s64 : ∀ c, c < qc (zP z) → M4.1 64 c = nI (f c) := fun c hc => by rw [e4, jrI_s, va_cpy0 hc]; exact r63 c hc
  have s63 : ∀ c, c < qc (zP z) → M4.1 63 c = nI (f c) := fun c hc => by rw [e4, jrI_n (by omega)]; exact r63 c hc
  have s69 : ∀ c, c < qc (zP z) → M4.1 69 c = nI (g c) := fun c hc => by rw [e4, jrI_n (by omega)]; exact r69 c hc
  clear e4
  intro M5 e5
  have h5 : cI M5 (uOr z (0, qOc (zP z) f g 0)) := by
    rw [e5]
    exact h4.setOr (jsame.I (Or.inl rfl)) (by rw [jrI_s, pk_us]; rfl) (by omega) (fun k hk => absurd hk (Nat.not_lt_zero _)) (fun k => qOc_lt w ha k 0 (Nat.zero_le _))
  have t63 : ∀ c, c < qc (zP z) → M5.1 63 c = nI (f c) := fun c hc => by rw [e5, jrI_n (by omega)]; exact s63 c hc
  have t64 : ∀ c, c < qc (zP z) → M5.1 64 c = nI (f c) := fun c hc => by rw [e5, jrI_n (by omega)]; exact s64 c hc
  have t69 : ∀ c, c < qc (zP z) → M5.1 69 c = nI (g c) := fun c hc => by rw [e5, jrI_n (by omega)]; exact s69 c hc
  clear e5
  refine jloop (fun k (M6 : jM) => JW x jtbC mX0_findOrder (d + 6) (jV P) 52 [(0, .ref (x.2.2.2 62)), (1, .ref (x.2.2.2 30)), (2, .int (nI (qUn f g (qc (zP z))))), (3, .int (nI k))] [] M6) (fun k M6 => cI M6 (uOr z (k, qOc (zP z) f g k)) ∧ (∀ c, c < qc (zP z) → M6.1 63 c = nI (f c)) ∧ (∀ c, c < qc (zP z) → M6.1 64 c = nI (qTk (zP z) f g k c)) ∧ (∀ c, c < qc (zP z) → M6.1 69 c = nI (g c))) (qUn f g (qc (zP z))) ?_ ?_ 0 M5 (Nat.zero_le _) ⟨h5, t63, t64, t69⟩
  · rintro M6 ⟨k1, k2, k3, k4⟩
    exact b_X0_findOrder_52 (pk_le (qUn f g (qc (zP z))) (qUn f g (qc (zP z))) (fun _ => hP M6 k1) (fun c => absurd c (by omega)))
  · rintro k M6 hk ⟨k1, k2, k3, k4⟩ ih
    obtain ⟨o1, o2, o3, o4⟩ := order_run ha k (by omega)
    have lt := o4 hk
    refine b_X0_findOrder_52 (pk_le (qUn f g (qc (zP z))) k (fun c => absurd c (by omega)) (fun _ => ?_))
    refine k_changeFirst (f := f) (g := g) (t := qTk (zP z) f g k) (pl := zP z) k1.pl k2 bf k3 (qTk_le bf bg k) k4 bg lt (fun M7 m1 m2 m3 => ?_)
    have h7 : cI M7 (uOr z (k, qOc (zP z) f g k)) := k1.scr (m1.mono (fun q hq => by unfold cScr; omega))
    refine ⟨fun _ => ⟨k, by omega, h7.2.2.2.2.2.2.2.2.2.2.2.1, ?_⟩, fun c => absurd c (nI_ne1 (by omega))⟩
    intro M8 e8 M9 e9
    have e63 : M8.1 62 3 + 1 = nI (k + 1) := by
      rw [e8, jrI_n (by omega), show M7.1 62 3 = nI k from h7.2.2.2.2.2.2.2.2.2.2.2.1, nI_1]
    have h9 : cI M9 (uOr z (k + 1, qOc (zP z) f g (k + 1))) := by
      refine cI.setOr (z := uOr z (k, qOc (zP z) f g k)) (M := M7) h7 ?_ ?_ (by omega) (fun j hj => ?_) (fun j => qOc_lt w ha j (k + 1) hk)
      · rw [e9, e8]
        exact (jsame.I (Or.inr rfl)).tr (jsame.I (Or.inl rfl))
      · rw [e9, jrI_s, pk_us]; exact e63
      · rw [e9, jrI_n (by omega), e8, jrI_s]
        have ro : ∀ j, j < k → M7.1 65 j = nI (qOc (zP z) f g k j) := h7.2.2.2.2.2.2.2.2.2.2.2.2.1
        by_cases q : j = k
        · rw [q, pk_us]
          unfold qOc
          rw [if_pos (by omega)]
        · rw [pk_un q, ro j (by omega)]
          unfold qOc
          rw [if_pos (by omega), if_pos (by omega)]
    rw [nI_1]
    refine ih M9 ⟨h9, fun c hc => ?_, fun c hc => ?_, fun c hc => ?_⟩
    · rw [e9, jrI_n (by omega), e8, jrI_n (by omega), (m1 63 (by omega)).1]; exact k2 c hc
    · rw [e9, jrI_n (by omega), e8, jrI_n (by omega)]; exact m3 c hc
    · rw [e9, jrI_n (by omega), e8, jrI_n (by omega), (m1 69 (by omega)).1]; exact k4 c hc
theorem o_order {P : jM → Int32 → Prop} {a : Int32} (h : cI M z) (hP : ∀ M', cI M' (sOrder z a).1 → P M' (sOrder z a).2) : JC x jtbC mX11_order (d + 7) [.ref (x.2.2.2 0), .int a] M (jI P) := by
  unfold sOrder at hP
  have w := h.pl.wf
  have h25 := w.c25
  refine b_X11_order ?_
  rw [h.pl.c]
  refine k_trayRow (by omega) h ?_
  by_cases q : qin a 4 = true
  · rw [if_pos q] at hP ⊢
    obtain ⟨t, ht, rfl, e⟩ := qin_0 q (by omega)
    rw [e] at hP ⊢
    have tr := h.tr ht
    by_cases c : (zTr z t).1 = true
    · rw [if_pos c] at hP ⊢
      have h5 := qRs_le (zTr z t) (qc (zP z))
      by_cases r : qRs (zTr z t) (qc (zP z)) = 0
      · rw [if_pos r] at hP
        rw [r]
        refine ⟨fun _ => ⟨qc (zP z), h.pl.c, by omega, by omega, ?_⟩, fun w => absurd rfl w⟩
        obtain ⟨r1, r2⟩ := qRs_0 r
        intro M1 e1
        have h1 : cI M1 z := by rw [e1]; exact h.scr ((jsame.I (S := fun q => q = 63) rfl).mono (fun q hq => by unfold cScr; omega))
        have r63 : ∀ c, c < qc (zP z) → M1.1 63 c = nI (zT z c) := fun c hc => by rw [e1, jrI_s, va_cpy0 hc]; exact h.tw c (by omega)
        clear e1
        refine ⟨t, ht, rfl, ?_⟩
        rw [h1.pl.c]
        refine k_copyHeights (from_ := 0) (place := 0) (many := qc (zP z)) (at9 ht) (h1.tr ht) sC_64 (by decide) (by omega) (by omega) (fun k hk => by rw [Nat.zero_add]; exact r2 k hk) (fun M2 g1 g2 g3 _ => ?_)
        have h2 : cI M2 z := h1.scr (g1.mono (fun q hq => by unfold cScr; omega))
        have s63 : ∀ c, c < qc (zP z) → M2.1 63 c = nI (zT z c) := fun c hc => by rw [(g1 63 (by omega)).1]; exact r63 c hc
        have s64 : ∀ c, c < qc (zP z) → M2.1 64 c = nI (qtH (zTr z t) c) := fun c hc => by have := g3 c hc; rw [Nat.zero_add] at this; exact this
        refine k_cellsUnlike h2.pl s63 h.t9 s64 (qtH_le _) ?_
        have un : qUn (zT z) (qtH (zTr z t)) (qc (zP z)) ≤ qc (zP z) := fb_ct_le _ _
        refine pk_le (qUn (zT z) (qtH (zTr z t)) (qc (zP z))) 12 (fun u => ?_) (fun u => ?_)
        · rw [if_pos u] at hP
          refine k_looksAlike h2.pl s63 h.t9 s64 (qtH_le _) (fun M3 k1 k2 => ?_)
          have h3 : cI M3 z := h2.scr (k1.mono (fun q hq => by unfold cScr; omega))
          refine ⟨fun al => ?_, fun al => ?_⟩
          · rw [if_pos al] at hP
            refine k_findOrder h3 (fun c hc => by rw [(k1 63 (by omega)).1]; exact s63 c hc) h.t9 (fun c hc => by rw [(k1 64 (by omega)).1]; exact s64 c hc) (qtH_le _) al u (fun M4 h4 => ?_)
            rw [show M4.1 62 3 = nI (qUn (zT z) (qtH (zTr z t)) (qc (zP z))) from h4.2.2.2.2.2.2.2.2.2.2.2.1]
            exact c_answered h4 hP
          · rw [al] at hP
            exact c_refused h3 hP
        · rw [if_neg (by omega)] at hP
          exact c_refused h2 hP
      · rw [if_neg r] at hP
        have rn : ¬ nI (qRs (zTr z t) (qc (zP z))) = 0 := nI_ne0 (by omega) (by omega)
        exact ⟨fun w => absurd w rn, fun _ => c_refused h hP⟩
    · rw [if_neg c] at hP ⊢
      exact ⟨fun w => absurd w (by decide), fun _ => c_refused h hP⟩
  · rw [if_neg q] at hP ⊢
    exact ⟨fun w => absurd w (by decide), fun _ => c_refused h hP⟩
end OR2
