/-! trays: what the operations do; class and model -/
def trset (f : Nat → qT) (k : Nat) (t : qT) : Nat → qT := fun j => if j = k then t else f j
def sTray (z : qZ) (a b c : Int32) : qZ × Bool := if qin a 4 && qin b 4 then (if c ≤ 60 then (if 0 ≤ c then (uSt (uTr z (trset (zTr z) a.toNatClampNeg (true, b.toNatClampNeg, c.toNatClampNeg, fun _ => 0))) 0, true) else rb z 6) else rb z 5) else rb z 1
def sPlace (z : qZ) (a b : Int32) : Int32 := if qin a 4 then (if (zTr z a.toNatClampNeg).1 then (if qin b (zTr z a.toNatClampNeg).2.2.1 then 0 else 4) else 3) else 1
def qCut (sort : Nat) (v : Int64) : Int64 := if sort = 0 then v.toInt32.toInt8.toInt32.toInt64 else if sort = 1 then v.toInt32.toInt16.toInt32.toInt64 else if sort = 2 then v.toInt32.toInt64 else v
def lset (f : Nat → Int64) (k : Nat) (v : Int64) : Nat → Int64 := fun j => if j = k then v else f j
def sWrite (z : qZ) (a b : Int32) (v : Int64) : qZ × Bool := if sPlace z a b = 0 then (uSt (uTr z (trset (zTr z) a.toNatClampNeg ((zTr z a.toNatClampNeg).1, (zTr z a.toNatClampNeg).2.1, (zTr z a.toNatClampNeg).2.2.1, lset (zTr z a.toNatClampNeg).2.2.2 b.toNatClampNeg (qCut (zTr z a.toNatClampNeg).2.1 v)))) 0, true) else rb z (sPlace z a b)
def sRead (z : qZ) (a b : Int32) : qZ × Int64 := if sPlace z a b = 0 then (uSt z 0, (zTr z a.toNatClampNeg).2.2.2 b.toNatClampNeg) else (uSt z (sPlace z a b), -1)
theorem sPlace_0 {z : qZ} {a b : Int32} (h : sPlace z a b = 0) (h60 : ∀ t, (zTr z t).2.2.1 ≤ 60) : ∃ t k, t < 4 ∧ a = nI t ∧ a.toNatClampNeg = t ∧ (zTr z t).1 = true ∧ k < (zTr z t).2.2.1 ∧ b = nI k ∧ b.toNatClampNeg = k := by
  unfold sPlace at h
  by_cases c : qin a 4 = true
  · rw [if_pos c] at h
    obtain ⟨t, ht, ea, e⟩ := qin_0 c (by omega)
    rw [e] at h
    by_cases c1 : (zTr z t).1 = true
    · rw [if_pos c1] at h
      by_cases c2 : qin b (zTr z t).2.2.1 = true
      · obtain ⟨k, hk, eb, e2⟩ := qin_0 c2 (by have := h60 t; omega)
        exact ⟨t, k, ht, ea, e, c1, hk, eb, e2⟩
      · rw [if_neg c2] at h; exact absurd h (by decide)
    · rw [if_neg c1] at h; exact absurd h (by decide)
  · rw [if_neg c] at h; exact absurd h (by decide)
theorem cI.setTr {M M' : jM} {z : qZ} {t : Nat} {r : qT} (h : cI M z) (ht : t < 4) (h1 : ∀ q, q ≠ 77 + 2 * t → M'.1 q = M.1 q) (h2 : ∀ q, q ≠ 78 + 2 * t → M'.2 q = M.2 q) (hr : cTr M' (77 + 2 * t) r) : cI M' (uTr z (trset (zTr z) t r)) := by
  obtain ⟨a1, a2, a3, a4, a5, a6, a7, a8, a9, a10, a11, a12, a13, a14, a15, a16⟩ := h
  obtain ⟨-, -, -, km, -, -, -⟩ := id a16
  refine ⟨by rw [h1 0 (by omega)]; exact a1, by rw [h2 75 (by omega)]; exact a2, by rw [h2 75 (by omega)]; exact a3, fun s hs => ?_, by rw [h1 0 (by omega)]; exact a5, fun k hk => by rw [h1 2 (by omega)]; exact a6 k hk, by rw [h1 76 (by omega)]; exact a7, by rw [h1 76 (by omega)]; exact a8, a9.keep (fun q q1 q2 q3 => h1 q (by omega)) (h2 _ (by omega)), by rw [h1 0 (by omega)]; exact a10, fun m hm => (a11 m hm).keep (fun q q1 q2 q3 => h1 q (by omega)) (h2 _ (by omega)), by rw [h1 62 (by omega)]; exact a12, fun k hk => by rw [h1 65 (by omega)]; exact a13 k hk, fun k hk => by rw [h1 74 (by omega)]; exact a14 k hk, fun k hk => by rw [h2 14 (by omega), h2 26 (by omega)]; exact a15 k hk, a16⟩
  show cTr M' (77 + 2 * s) (if s = t then r else zTr z s)
  by_cases q : s = t
  · rw [if_pos q, q]; exact hr
  · rw [if_neg q]
    exact (a4 s hs).keep (h1 _ (by omega)) (h2 _ (by omega))
theorem mI.setTr {N N' : jM} {z : qZ} {t : Nat} {r : qT} (h : mI N z) (ht : t < 4) (h1 : ∀ q, q ≠ 1 → q ≠ 2 → N'.1 q = N.1 q) (h2 : ∀ q, q ≠ 3 → N'.2 q = N.2 q) (e1 : ∀ k, k ≠ t → N'.1 1 k = N.1 1 k) (e2 : ∀ k, k ≠ t → N'.1 2 k = N.1 2 k) (e3 : ∀ k, (k < 60 * t ∨ 60 * t + 60 ≤ k) → N'.2 3 k = N.2 3 k) (hr : mTr N' t r) : mI N' (uTr z (trset (zTr z) t r)) := by
  obtain ⟨a1, a2, a3, a4, a5, a6, a7, a8, a9, a10, a11, a12, a13, a14, a15⟩ := h
  obtain ⟨k1, k2, k3, k4, k5, k6, k7⟩ := id a15
  refine ⟨by rw [h1 0 (by omega) (by omega)]; exact a1, by rw [h2 0 (by omega)]; exact a2, by rw [h2 0 (by omega)]; exact a3, fun s hs => ?_, by rw [h1 0 (by omega) (by omega)]; exact a5, fun k hk => by rw [h1 4 (by omega) (by omega)]; exact a6 k hk, by rw [h1 0 (by omega) (by omega)]; exact a7, by rw [h1 0 (by omega) (by omega)]; exact a8, a9.keep k3 (fun k hk => by rw [h1 5 (by omega) (by omega)]) (fun k hk => by rw [h2 6 (by omega)]), by rw [h1 0 (by omega) (by omega)]; exact a10, fun m hm => (a11 m hm).keep (k5 m hm) (fun k hk => by rw [h1 5 (by omega) (by omega)]) (fun k hk => by rw [h2 6 (by omega)]), by rw [h1 0 (by omega) (by omega)]; exact a12, fun k hk => by rw [h1 13 (by omega) (by omega)]; exact a13 k hk, ?_, a15⟩
  · show mTr N' s (if s = t then r else zTr z s)
    by_cases q : s = t
    · rw [if_pos q, q]; exact hr
    · rw [if_neg q]
      exact (a4 s hs).keep (e2 s q) (e1 s q) (fun k hk => e3 _ (by omega))
  · rw [h1 0 (by omega) (by omega), h1 16 (by omega) (by omega)]
    exact a14
theorem cI.tr {M : jM} {z : qZ} (h : cI M z) {t : Nat} (ht : t < 4) : cTr M (77 + 2 * t) (zTr z t) := h.2.2.2.1 t ht
theorem mI.tr {N : jM} {z : qZ} (h : mI N z) {t : Nat} (ht : t < 4) : mTr N t (zTr z t) := h.2.2.2.1 t ht
theorem le3 {b : Int32} {A B : Prop} (h1 : qin b 4 = false → A) (h2 : qin b 4 = true → B) : (b < 0 → A) ∧ (¬ b < 0 → (b ≤ 3 → B) ∧ (¬ b ≤ 3 → A)) := by
  have := qin_br2 (a := b) (n := 4) (by decide) h1 h2
  have e3 : (3 : Int32).toInt = 3 := rfl
  have e4 : (nI 4).toInt = 4 := rfl
  refine ⟨this.1, fun c => ⟨fun c2 => (this.2 c).2 ?_, fun c2 => (this.2 c).1 ?_⟩⟩
  · rw [Int32.le_iff_toInt_le] at c2 ⊢; omega
  · rw [Int32.le_iff_toInt_le] at c2 ⊢; omega
theorem lt4 {b : Int32} {A B : Prop} (h1 : qin b 4 = false → A) (h2 : qin b 4 = true → B) : (b < 0 → A) ∧ (¬ b < 0 → (b < 4 → B) ∧ (¬ b < 4 → A)) := by
  have := qin_br2 (a := b) (n := 4) (by decide) h1 h2
  have e3 : (4 : Int32).toInt = 4 := rfl
  have e4 : (nI 4).toInt = 4 := rfl
  refine ⟨this.1, fun c => ⟨fun c2 => (this.2 c).2 ?_, fun c2 => (this.2 c).1 ?_⟩⟩
  · rw [Int32.le_iff_toInt_le]; rw [Int32.lt_iff_toInt_lt] at c2; omega
  · rw [Int32.le_iff_toInt_le]; rw [Int32.lt_iff_toInt_lt] at c2; omega
theorem to60 {c : Int32} (h1 : c ≤ 60) (h2 : 0 ≤ c) : ∃ n, n ≤ 60 ∧ c = nI n ∧ c.toNatClampNeg = n := by
  have e0 : (0 : Int32).toInt = 0 := rfl
  have e6 : (60 : Int32).toInt = 60 := rfl
  rw [Int32.le_iff_toInt_le] at h1 h2
  have h : qin c 61 = true := decide_eq_true (by omega)
  obtain ⟨j, hj, e, e2⟩ := qin_0 h (by omega)
  exact ⟨j, by omega, e, e2⟩
section TRO
variable {x : jX} {d : Nat} {M : jM} {z : qZ}
theorem k_isTray {P : jM → Bool → Prop} {a : Int32} (h : P M (qin a 4)) : JC x jtbC mX11_isTray d [.int a] M (jZ P) := b_X11_isTray (qin_br (n := 4) (A := P M) (by decide) h)
theorem o_tray {P : jM → Bool → Prop} {a b c : Int32} (h : cI M z) (hP : ∀ M', cI M' (sTray z a b c).1 → P M' (sTray z a b c).2) : JC x jtbC mX11_tray (d + 2) [.ref (x.2.2.2 0), .int a, .int b, .int c] M (jZ P) := by
  unfold sTray at hP
  refine b_X11_tray (k_isTray ⟨fun q => ?_, fun q => le3 (fun q2 => ?_) (fun q2 => ⟨fun q3 => ⟨fun q4 => ?_, fun q4 => ?_⟩, fun q3 => ?_⟩)⟩)
  · rw [q] at hP; exact c_isDone h hP
  · rw [q, q2] at hP; exact c_isDone h hP
  · rw [q, q2, if_pos (show (true && true) = true from rfl), if_pos q3, if_pos q4] at hP
    obtain ⟨t, ht, rfl, e⟩ := qin_0 q (by omega)
    obtain ⟨s, hs, rfl, e2⟩ := qin_0 q2 (by omega)
    obtain ⟨n, hn, rfl, e3⟩ := to60 q3 q4
    rw [e, e2, e3] at hP
    refine ⟨t, ht, rfl, b_X9_lay (at9 ht) ?_⟩
    rintro M1 rfl M2 rfl M3 e4
    have r : ∀ q, q ≠ 77 + 2 * t → M3.1 q = M.1 q := fun q hq => by rw [e4, jrI_n hq, jrI_n hq, jrI_n hq]
    have r0 : M3.1 (77 + 2 * t) 0 = 1 ∧ M3.1 (77 + 2 * t) 1 = nI s ∧ M3.1 (77 + 2 * t) 2 = nI n := by
      rw [e4]
      refine ⟨?_, ?_, ?_⟩ <;> simp (disch := omega) only [jrI_s, pk_us, pk_un]
    have r2 : M3.2 = M.2 := by rw [e4]; rfl
    clear e4
    refine k_fillL (at9 ht).2 (by decide) (fun M4 g1 g2 g3 => ?_)
    refine c_isDone (h.setTr ht (fun q hq => by rw [g2]; exact r q hq) (fun q hq => by rw [(g1 q (by omega)).2, r2]) (r := (true, s, n, fun _ => 0)) ⟨by rw [g2]; exact r0.1, by rw [g2]; exact r0.2.1, by rw [g2]; exact r0.2.2, by show s ≤ 3; omega, hn, fun k hk => g3 k (by have : k < n := hk; omega)⟩) hP
  · rw [q, q2, if_pos (show (true && true) = true from rfl), if_pos q3, if_neg q4] at hP; exact c_isDone h hP
  · rw [q, q2, if_pos (show (true && true) = true from rfl), if_neg q3] at hP; exact c_isDone h hP
theorem k_trayPlace {P : jM → Int32 → Prop} {a b : Int32} (h : cI M z) (hP : P M (sPlace z a b)) : JC x jtbC mX11_trayPlaceStatus (d + 1) [.ref (x.2.2.2 0), .int a, .int b] M (jI P) := by
  unfold sPlace at hP
  refine b_X11_trayPlaceStatus (k_isTray ⟨fun q => ?_, fun q => ?_⟩)
  · rw [if_pos q] at hP
    obtain ⟨t, ht, rfl, e⟩ := qin_0 q (by omega)
    rw [e] at hP
    have tr := h.tr ht
    refine ⟨t, ht, rfl, ?_⟩
    rw [tr.1, jb_0]
    refine ⟨fun q2 => k_hasPlaces (at9 ht) tr ?_, fun q2 => ?_⟩
    · have q3 : (zTr z t).1 = true := by revert q2; cases (zTr z t).1 <;> simp
      rw [if_pos q3] at hP
      have e2 : qpl (zTr z t) b 1 = qin b (zTr z t).2.2.1 := by
        unfold qpl qin
        congr 1
        apply propext
        have : (1 : Int32).toInt = 1 := rfl
        omega
      rw [e2]
      exact ⟨fun q4 => by rw [q4] at hP; exact hP, fun q4 => by rw [q4] at hP; exact hP⟩
    · rw [q2] at hP; exact hP
  · rw [q] at hP; exact hP
theorem o_write {P : jM → Bool → Prop} {a b : Int32} {v : Int64} (h : cI M z) (hP : ∀ M', cI M' (sWrite z a b v).1 → P M' (sWrite z a b v).2) : JC x jtbC mX11_write (d + 2) [.ref (x.2.2.2 0), .int a, .int b, .long v] M (jZ P) := by
  unfold sWrite at hP
  refine b_X11_write (k_trayPlace h ⟨fun q => ?_, fun q => ?_⟩)
  · rw [if_neg q] at hP; exact c_isDone h hP
  · rw [if_pos q] at hP
    have h60 : ∀ t, t < 4 → (zTr z t).2.2.1 ≤ 60 := fun t ht => (h.tr ht).2.2.2.2.1
    unfold sPlace at q
    by_cases c : qin a 4 = true
    · rw [if_pos c] at q
      obtain ⟨t, ht, rfl, e⟩ := qin_0 c (by omega)
      rw [e] at q hP
      by_cases c1 : (zTr z t).1 = true
      · rw [if_pos c1] at q
        by_cases c2 : qin b (zTr z t).2.2.1 = true
        · obtain ⟨k, hk, rfl, e2⟩ := qin_0 c2 (by have := h60 t ht; omega)
          rw [e2] at hP
          have tr := h.tr ht
          have h6 := h60 t ht
          have hsp : sPlace z (nI t) (nI k) = 0 := by unfold sPlace; rw [if_pos c, e, if_pos c1, if_pos c2]
          refine ⟨t, ht, rfl, ?_⟩
          have fin : ∀ M', M' = jrL M (77 + 2 * t + 1) (vp_updL (M.2 (77 + 2 * t + 1)) k (qCut (zTr z t).2.1 v)) → JC x jtbC mX11_isDone (d + 1) [.ref (x.2.2.2 0), .int (sPlace z (nI t) (nI k))] M' (jZ fun M4 b2 => P M4 b2) := by
            rintro _ rfl
            rw [hsp]
            refine c_isDone (h.setTr ht (r := ((zTr z t).1, (zTr z t).2.1, (zTr z t).2.2.1, lset (zTr z t).2.2.2 k (qCut (zTr z t).2.1 v))) (fun q _ => rfl) (fun q hq => jrL_n (by omega)) ⟨tr.1, tr.2.1, tr.2.2.1, tr.2.2.2.1, tr.2.2.2.2.1, fun j hj => ?_⟩) hP
            rw [jrL_s]
            show vp_updL (M.2 (77 + 2 * t + 1)) k (qCut (zTr z t).2.1 v) j = if j = k then _ else _
            by_cases w : j = k
            · rw [w, pk_uLs, if_pos rfl]
            · rw [pk_uLn w, if_neg w]; exact tr.2.2.2.2.2 j hj
          have h3 := tr.2.2.2.1
          refine b_X9_put (at9 ht) ?_
          rw [tr.2.1]
          rcases (show (zTr z t).2.1 = 0 ∨ (zTr z t).2.1 = 1 ∨ (zTr z t).2.1 = 2 ∨ (zTr z t).2.1 = 3 by omega) with w | w | w | w <;> rw [w] at fin ⊢
          · exact ⟨fun _ => ⟨k, by omega, rfl, fun M1 e1 => fin M1 e1⟩, fun c => absurd rfl c⟩
          · exact ⟨fun c => absurd c (by decide), fun _ => ⟨fun _ => ⟨k, by omega, rfl, fun M1 e1 => fin M1 e1⟩, fun c => absurd rfl c⟩⟩
          · exact ⟨fun c => absurd c (by decide), fun _ => ⟨fun c => absurd c (by decide), fun _ => ⟨fun _ => ⟨k, by omega, rfl, fun M1 e1 => fin M1 e1⟩, fun c => absurd rfl c⟩⟩⟩
          · exact ⟨fun c => absurd c (by decide), fun _ => ⟨fun c => absurd c (by decide), fun _ => ⟨fun c => absurd c (by decide), fun _ => ⟨k, by omega, rfl, fun M1 e1 => fin M1 e1⟩⟩⟩⟩
        · rw [if_neg c2] at q; exact absurd q (by decide)
      · rw [if_neg c1] at q; exact absurd q (by decide)
    · rw [if_neg c] at q; exact absurd q (by decide)
theorem o_read {P : jM → Int64 → Prop} {a b : Int32} (h : cI M z) (hP : ∀ M', cI M' (sRead z a b).1 → P M' (sRead z a b).2) : JC x jtbC mX11_read (d + 2) [.ref (x.2.2.2 0), .int a, .int b] M (jL P) := by
  unfold sRead at hP
  refine b_X11_read (k_trayPlace h ⟨fun q => ?_, fun q => ?_⟩)
  · rw [if_pos q] at hP
    rintro M2 rfl
    have h60 : ∀ t, t < 4 → (zTr z t).2.2.1 ≤ 60 := fun t ht => (h.tr ht).2.2.2.2.1
    unfold sPlace at q
    by_cases c : qin a 4 = true
    · rw [if_pos c] at q
      obtain ⟨t, ht, rfl, e⟩ := qin_0 c (by omega)
      rw [e] at q hP
      by_cases c1 : (zTr z t).1 = true
      · rw [if_pos c1] at q
        by_cases c2 : qin b (zTr z t).2.2.1 = true
        · obtain ⟨k, hk, rfl, e2⟩ := qin_0 c2 (by have := h60 t ht; omega)
          rw [e2] at hP
          have h6 := h60 t ht
          refine ⟨t, ht, rfl, k, by omega, rfl, ?_⟩
          have h1 := h.st 0
          rw [(h1.tr ht).2.2.2.2.2 k hk]
          exact hP _ h1
        · rw [if_neg c2] at q; exact absurd q (by decide)
      · rw [if_neg c1] at q; exact absurd q (by decide)
    · rw [if_neg c] at q; exact absurd q (by decide)
  · rw [if_neg q] at hP
    exact c_refused h hP
theorem m_trayed {P : jM → Int32 → Prop} {a : Int32} (h : mI M z) (hP : P M (if qin a 4 then (if (zTr z a.toNatClampNeg).1 then 0 else 3) else 1)) : JC x jtbM mX12_trayed d [.ref (x.2.2.2 0), .int a] M (jI P) := by
  refine b_X12_trayed (lt4 (fun q => ?_) (fun q => ?_))
  · rw [q] at hP; exact hP
  · rw [if_pos q] at hP
    obtain ⟨t, ht, rfl, e⟩ := qin_0 q (by omega)
    rw [e] at hP
    have tr := h.tr ht
    refine ⟨t, ht, rfl, ?_⟩
    rw [tr.1]
    cases c : (zTr z t).1 with
    | true =>
      rw [c] at hP
      have h6 := tr.2.2.2.2
      exact ⟨fun _ => hP, fun q => absurd (nI_pos' (by omega)) q⟩
    | false =>
      rw [c] at hP
      exact ⟨fun q => absurd (show (0 : Int32) ≤ -1 from q) (by decide), fun _ => hP⟩
theorem m_placed {P : jM → Int32 → Prop} {a b : Int32} (h : mI M z) (hP : P M (sPlace z a b)) : JC x jtbM mX12_placed (d + 1) [.ref (x.2.2.2 0), .int a, .int b] M (jI P) := by
  unfold sPlace at hP
  refine b_X12_placed (m_trayed h ?_)
  by_cases c : qin a 4 = true
  · rw [if_pos c] at hP
    rw [if_pos c]
    obtain ⟨t, ht, rfl, e⟩ := qin_0 c (by omega)
    rw [e] at hP ⊢
    have tr := h.tr ht
    by_cases c1 : (zTr z t).1 = true
    · rw [if_pos c1] at hP ⊢
      have h6 := tr.2.2.2.2
      refine ⟨fun _ => ?_, fun q => absurd (by decide) q⟩
      have e1 := tr.1
      rw [c1, if_pos rfl] at e1
      have := qin_br2 (a := b) (n := (zTr z t).2.2.1) (by omega) (A := P M 4) (B := P M 0) (fun q => by rw [q] at hP; exact hP) (fun q => by rw [q] at hP; exact hP)
      refine ⟨this.1, fun q => ⟨t, ht, rfl, ?_⟩⟩
      rw [e1]
      exact ⟨fun q2 => (this.2 q).2 ((lt_nle _ _).mp q2), fun q2 => (this.2 q).1 (Decidable.of_not_not (fun q3 => q2 ((lt_nle _ _).mpr q3)))⟩
    · rw [if_neg c1] at hP ⊢
      exact ⟨fun q => absurd q (by decide), fun _ => hP⟩
  · rw [if_neg c] at hP ⊢
    exact ⟨fun q => absurd q (by decide), fun _ => hP⟩
theorem sPlace_n (z : qZ) (a b : Int32) : sPlace z a b = 0 ∨ ¬ sPlace z a b ≤ 0 := by
  unfold sPlace
  split
  · split
    · split
      · exact Or.inl rfl
      · exact Or.inr (by decide)
    · exact Or.inr (by decide)
  · exact Or.inr (by decide)
theorem n_tray {P : jM → Bool → Prop} {a b c : Int32} (h : mI M z) (hP : ∀ M', mI M' (sTray z a b c).1 → P M' (sTray z a b c).2) : JC x jtbM mX12_tray (d + 1) [.ref (x.2.2.2 0), .int a, .int b, .int c] M (jZ P) := by
  unfold sTray at hP
  refine b_X12_tray ?_
  rintro M1 rfl M2 rfl
  have h2 := (h.th 0).st 0
  generalize jrI (jrI M 0 (upd (M.1 0) 1 0)) 0 (upd ((jrI M 0 (upd (M.1 0) 1 0)).1 0) 0 0) = M2 at h2 ⊢
  refine qin_br2 (n := 4) (by decide) (fun q => ?_) (fun q => le3 (fun q2 => ?_) (fun q2 => ⟨fun q3 => ⟨fun q4 => ?_, fun q4 => ?_⟩, fun q3 => ?_⟩))
  · rw [q] at hP; exact m_no h2 hP
  · rw [q, q2] at hP; exact m_no h2 hP
  · rw [q, q2, if_pos (show (true && true) = true from rfl), if_pos q3, if_pos q4] at hP
    obtain ⟨t, ht, rfl, e⟩ := qin_0 q (by omega)
    obtain ⟨s, hs, rfl, e2⟩ := qin_0 q2 (by omega)
    obtain ⟨n, hn, rfl, e3⟩ := to60 q3 q4
    rw [e, e2, e3] at hP
    refine ⟨t, ht, rfl, ?_⟩
    rintro M6 rfl M7 rfl
    refine jloop (fun i (M' : jM) => JW x jtbM mX12_tray (d + 1) (jZ P) 74 [(0, .ref (x.2.2.2 0)), (1, .int (nI t)), (3, .int (nI n)), (4, .int (nI i))] [] M') (fun i M' => M'.1 = (jrI (jrI M2 1 (upd (M2.1 1) t (nI s))) 2 (upd ((jrI M2 1 (upd (M2.1 1) t (nI s))).1 2) t (nI n))).1 ∧ (∀ q, q ≠ 3 → M'.2 q = M2.2 q) ∧ (∀ k, (k < 60 * t ∨ 60 * t + 60 ≤ k) → M'.2 3 k = M2.2 3 k) ∧ ∀ k, k < i → M'.2 3 (60 * t + k) = 0) n ?_ ?_ 0 _ (Nat.zero_le _) ⟨rfl, fun _ _ => rfl, fun _ _ => rfl, fun k hk => absurd hk (Nat.not_lt_zero _)⟩
    · rintro M' ⟨g1, g2, g3, g4⟩
      refine b_X12_tray_74 (pk_le n n (fun _ => ?_) (fun c => absurd c (by omega)))
      refine hP _ (mI.setTr (z := uSt z 0) h2 ht (r := (true, s, n, fun _ => 0)) (fun q q1 q2 => by rw [g1, jrI_n q2, jrI_n q1]) g2 (fun k hk => by rw [g1, jrI_n (by omega), jrI_s, pk_un hk]) (fun k hk => by rw [g1, jrI_s, pk_un hk, jrI_n (by omega)]) g3 ⟨?_, fun _ => ?_, fun _ k hk => g4 k hk, by show s ≤ 3; omega, hn⟩)
      · rw [g1, jrI_s, pk_us]; rfl
      · rw [g1, jrI_n (by omega), jrI_s, pk_us]
    · rintro i M' hi ⟨g1, g2, g3, g4⟩ ih
      refine b_X12_tray_74 (pk_le n i (fun c => absurd c (by omega)) (fun _ => ⟨60 * t + i, by omega, by rw [jn60, pk_mul, nI_add], ?_⟩))
      rintro M8 rfl
      rw [nI_1]
      refine ih _ ⟨g1, fun q hq => by rw [jrL_n hq]; exact g2 q hq, fun k hk => by rw [jrL_s, pk_uLn (by omega)]; exact g3 k hk, fun k hk => ?_⟩
      rw [jrL_s]
      by_cases w : k = i
      · rw [w, pk_uLs]
      · rw [pk_uLn (by omega)]; exact g4 k (by omega)
  · rw [q, q2, if_pos (show (true && true) = true from rfl), if_pos q3, if_neg q4] at hP; exact m_no h2 hP
  · rw [q, q2, if_pos (show (true && true) = true from rfl), if_neg q3] at hP; exact m_no h2 hP
theorem n_write {P : jM → Bool → Prop} {a b : Int32} {v : Int64} (h : mI M z) (hP : ∀ M', mI M' (sWrite z a b v).1 → P M' (sWrite z a b v).2) : JC x jtbM mX12_write (d + 2) [.ref (x.2.2.2 0), .int a, .int b, .long v] M (jZ P) := by
  unfold sWrite at hP
  refine b_X12_write ?_
  rintro M1 rfl
  have h1 := h.th 0
  refine m_placed h1 ?_
  rintro M3 rfl
  have h2 := h1.st (sPlace z a b)
  generalize jrI (jrI M 0 (upd (M.1 0) 1 0)) 0 (upd ((jrI M 0 (upd (M.1 0) 1 0)).1 0) 0 (sPlace z a b)) = M3 at h2 ⊢
  rw [h2.1]
  show (sPlace z a b ≤ 0 → _) ∧ (¬ sPlace z a b ≤ 0 → _)
  rcases sPlace_n z a b with q | q
  · rw [q] at h2 ⊢
    rw [if_pos q] at hP
    refine ⟨fun _ => ?_, fun c => absurd (by decide) c⟩
    unfold sPlace at q
    by_cases c : qin a 4 = true
    · rw [if_pos c] at q
      obtain ⟨t, ht, rfl, e⟩ := qin_0 c (by omega)
      rw [e] at q hP
      have tr := h2.tr ht
      have tz : zTr (uSt z 0) t = zTr z t := rfl
      rw [tz] at tr
      by_cases c1 : (zTr z t).1 = true
      · rw [if_pos c1] at q
        by_cases c2 : qin b (zTr z t).2.2.1 = true
        · obtain ⟨k, hk, rfl, e2⟩ := qin_0 c2 (by have := tr.2.2.2.2; omega)
          rw [e2] at hP
          have h6 := tr.2.2.2.2
          have h3 := tr.2.2.2.1
          refine ⟨t, ht, rfl, ?_⟩
          rw [tr.2.1 c1]
          have fin : ∃ j2, j2 < 240 ∧ (60 : Int32) * nI t + nI k = nI j2 ∧ ∀ M5, M5 = jrL M3 3 (vp_updL (M3.2 3) j2 (qCut (zTr z t).2.1 v)) → P M5 true := by
            refine ⟨60 * t + k, by omega, by rw [jn60, pk_mul, nI_add], ?_⟩
            rintro M5 rfl
            refine hP _ (mI.setTr (z := uSt z 0) h2 ht (r := ((zTr z t).1, (zTr z t).2.1, (zTr z t).2.2.1, lset (zTr z t).2.2.2 k (qCut (zTr z t).2.1 v))) (fun q _ _ => rfl) (fun q hq => jrL_n hq) (fun _ _ => rfl) (fun _ _ => rfl) (fun j hj => by rw [jrL_s, pk_uLn (by omega)]) ⟨tr.1, tr.2.1, fun w j hj => ?_, tr.2.2.2.1, tr.2.2.2.2⟩)
            rw [jrL_s]
            show vp_updL (M3.2 3) (60 * t + k) (qCut (zTr z t).2.1 v) (60 * t + j) = if j = k then _ else _
            by_cases u : j = k
            · rw [u, pk_uLs, if_pos rfl]
            · rw [pk_uLn (by omega), if_neg u]; exact tr.2.2.1 c1 j hj
          refine b_X12_cut ?_
          rcases (show (zTr z t).2.1 = 0 ∨ (zTr z t).2.1 = 1 ∨ (zTr z t).2.1 = 2 ∨ (zTr z t).2.1 = 3 by omega) with w | w | w | w <;> rw [w] at fin ⊢
          · exact ⟨fun c => absurd rfl c, fun _ => fin⟩
          · exact ⟨fun _ => ⟨fun c => absurd rfl c, fun _ => fin⟩, fun c => absurd c (by decide)⟩
          · exact ⟨fun _ => ⟨fun _ => ⟨fun c => absurd rfl c, fun _ => fin⟩, fun c => absurd c (by decide)⟩, fun c => absurd c (by decide)⟩
          · exact ⟨fun _ => ⟨fun _ => ⟨fun _ => fin, fun c => absurd c (by decide)⟩, fun c => absurd c (by decide)⟩, fun c => absurd c (by decide)⟩
        · rw [if_neg c2] at q; exact absurd q (by decide)
      · rw [if_neg c1] at q; exact absurd q (by decide)
    · rw [if_neg c] at q; exact absurd q (by decide)
  · have q0 : ¬ sPlace z a b = 0 := fun e => q (by rw [e]; decide)
    rw [if_neg q0] at hP
    refine ⟨fun c => absurd c q, fun _ => ?_⟩
    have := hP M3 h2
    unfold rb at this
    rw [decide_eq_false q0] at this
    exact this
theorem n_read {P : jM → Int64 → Prop} {a b : Int32} (h : mI M z) (hP : ∀ M', mI M' (sRead z a b).1 → P M' (sRead z a b).2) : JC x jtbM mX12_read (d + 2) [.ref (x.2.2.2 0), .int a, .int b] M (jL P) := by
  unfold sRead at hP
  refine b_X12_read ?_
  rintro M1 rfl
  have h1 := h.th 0
  refine m_placed h1 ?_
  rintro M3 rfl
  have h2 := h1.st (sPlace z a b)
  generalize jrI (jrI M 0 (upd (M.1 0) 1 0)) 0 (upd ((jrI M 0 (upd (M.1 0) 1 0)).1 0) 0 (sPlace z a b)) = M3 at h2 ⊢
  rw [h2.1]
  show (sPlace z a b ≤ 0 → _) ∧ (¬ sPlace z a b ≤ 0 → _)
  rcases sPlace_n z a b with q | q
  · rw [q] at h2 ⊢
    rw [if_pos q] at hP
    refine ⟨fun _ => ?_, fun c => absurd (by decide) c⟩
    unfold sPlace at q
    by_cases c : qin a 4 = true
    · rw [if_pos c] at q
      obtain ⟨t, ht, rfl, e⟩ := qin_0 c (by omega)
      rw [e] at q hP
      have tr := h2.tr ht
      have tz : zTr (uSt z 0) t = zTr z t := rfl
      rw [tz] at tr
      by_cases c1 : (zTr z t).1 = true
      · rw [if_pos c1] at q
        by_cases c2 : qin b (zTr z t).2.2.1 = true
        · obtain ⟨k, hk, rfl, e2⟩ := qin_0 c2 (by have := tr.2.2.2.2; omega)
          rw [e2] at hP
          have h6 := tr.2.2.2.2
          refine ⟨60 * t + k, by omega, by rw [jn60, pk_mul, nI_add], ?_⟩
          rw [tr.2.2.1 c1 k hk]
          exact hP _ h2
        · rw [if_neg c2] at q; exact absurd q (by decide)
      · rw [if_neg c1] at q; exact absurd q (by decide)
    · rw [if_neg c] at q; exact absurd q (by decide)
  · have q0 : ¬ sPlace z a b = 0 := fun e => q (by rw [e]; decide)
    rw [if_neg q0] at hP
    exact ⟨fun c => absurd c q, fun _ => hP M3 h2⟩
end TRO
