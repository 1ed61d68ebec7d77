/-! pour, feed, buildAll, largest, marks, down -/
def sPour (z : qZ) (a i b j n : Int32) : qZ × Bool :=
  if qin a 4 && qin b 4 then (if (zTr z a.toNatClampNeg).1 && (zTr z b.toNatClampNeg).1 then (if (zTr z a.toNatClampNeg).2.1 = (zTr z b.toNatClampNeg).2.1 then (if 0 ≤ n then (if qpl (zTr z a.toNatClampNeg) i n && qpl (zTr z b.toNatClampNeg) j n then
    (uSt (uTr z (trset (zTr z) b.toNatClampNeg ((zTr z b.toNatClampNeg).1, (zTr z b.toNatClampNeg).2.1, (zTr z b.toNatClampNeg).2.2.1, va_cpy (zTr z a.toNatClampNeg).2.2.2 (zTr z b.toNatClampNeg).2.2.2 i.toNatClampNeg j.toNatClampNeg n.toNatClampNeg))) 0, true) else rb z 4) else rb z 6) else rb z 11) else rb z 3) else rb z 1
theorem qpl_t {t : qT} {a b : Int32} (h : qpl t a b = true) (h6 : t.2.2.1 ≤ 60) : ∃ i n, a = nI i ∧ b = nI n ∧ a.toNatClampNeg = i ∧ b.toNatClampNeg = n ∧ i + n ≤ t.2.2.1 := by
  have h := of_decide_eq_true h
  have ha : qin a 61 = true := decide_eq_true (by omega)
  have hb : qin b 61 = true := decide_eq_true (by omega)
  obtain ⟨i, hi, ea, e1⟩ := qin_0 ha (by omega)
  obtain ⟨n, hn, eb, e2⟩ := qin_0 hb (by omega)
  refine ⟨i, n, ea, eb, e1, e2, ?_⟩
  rw [ea, eb, nI_toInt (by omega), nI_toInt (by omega)] at h
  omega
def qByte (v : Int32) (q : Nat) : Int32 := (v >>> (nI (24 - 8 * q) &&& 31)).toInt8.toInt32
def qFeed (f : Nat → Int32) (t : Nat) (xs : Nat → Int32) : Nat → Int32 := fun k => if k < t then f k else if k < t + 20 then qByte (xs ((k - t) / 4)) ((k - t) % 4) else 0
def five (a b c d e : Int32) : Nat → Int32 := fun q => if q = 0 then a else if q = 1 then b else if q = 2 then c else if q = 3 then d else e
def sFeed (z : qZ) (a b c d e : Int32) : qZ × Int32 := if (zTp z).1 + 20 ≤ 900 then (uTp z ((zTp z).1 + 20, qFeed (zTp z).2 (zTp z).1 (five a b c d e)), nI ((zTp z).1 + 20)) else (z, -1)
theorem qByte_rng (v : Int32) (q : Nat) : -128 ≤ (qByte v q).toInt ∧ (qByte v q).toInt < 128 := fb_byte_rng _
theorem qFeed_rng {f : Nat → Int32} (hf : ∀ k, -128 ≤ (f k).toInt ∧ (f k).toInt < 128) (t : Nat) (xs : Nat → Int32) (k : Nat) : -128 ≤ (qFeed f t xs k).toInt ∧ (qFeed f t xs k).toInt < 128 := by
  unfold qFeed
  split
  · exact hf k
  · split
    · exact qByte_rng _ _
    · exact ⟨by decide, by decide⟩
theorem cI.setTp {M M' : jM} {z : qZ} {n : Nat} {f : Nat → Int32} (h : cI M z) (hs : jsame (fun q => q = 0 ∨ q = 2) M M') (h0 : ∀ k, k ≠ 14 → M'.1 0 k = M.1 0 k) (h1 : M'.1 0 14 = nI n) (hn : n ≤ 900) (hf : ∀ k, k < n → M'.1 2 k = f k) (hr : ∀ k, -128 ≤ (f k).toInt ∧ (f k).toInt < 128) : cI M' (uTp z (n, f)) := by
  obtain ⟨a1, a2, a3, a4, a5, a6, a7, a8, a9, a10, a11, a12, a13, a14, a15, a16⟩ := h
  obtain ⟨k1, k2, k3, k4, k5, k6, k7⟩ := id a16
  have r : ∀ q, ¬ (q = 0 ∨ q = 2) → M'.1 q = M.1 q ∧ M'.2 q = M.2 q := hs
  refine ⟨by rw [h0 16 (by omega)]; exact a1, by rw [(r 75 (by omega)).2]; exact a2, by rw [(r 75 (by omega)).2]; exact a3, fun t ht => (a4 t ht).keep (r _ (by omega)).1 (r _ (by omega)).2, h1, hf, by rw [(r 76 (by omega)).1]; exact a7, by rw [(r 76 (by omega)).1]; exact a8, a9.keep (fun q q1 q2 q3 => (r q (by omega)).1) (r _ (by omega)).2, by rw [h0 15 (by omega)]; exact a10, fun m hm => (a11 m hm).keep (fun q q1 q2 q3 => (r q (by omega)).1) (r _ (by omega)).2, by rw [(r 62 (by omega)).1]; exact a12, fun k hk => by rw [(r 65 (by omega)).1]; exact a13 k hk, fun k hk => by rw [(r 74 (by omega)).1]; exact a14 k hk, fun k hk => by rw [(r 14 (by omega)).2, (r 26 (by omega)).2]; exact a15 k hk, ⟨hn, hr, k3, k4, k5, k6, k7⟩⟩
theorem mI.setTp {N N' : jM} {z : qZ} {n : Nat} {f : Nat → Int32} (h : mI N z) (hs : jsame (fun q => q = 0 ∨ q = 4) N N') (h2 : N'.2 = N.2) (h0 : ∀ k, k ≠ 8 → N'.1 0 k = N.1 0 k) (h1 : N'.1 0 8 = nI n) (hn : n ≤ 900) (hf : ∀ k, k < n → N'.1 4 k = f k) (hr : ∀ k, -128 ≤ (f k).toInt ∧ (f k).toInt < 128) : mI N' (uTp z (n, f)) := by
  obtain ⟨a1, a2, a3, a4, a5, a6, a7, a8, a9, a10, a11, a12, a13, a14, a15⟩ := h
  obtain ⟨k1, k2, k3, k4, k5, k6, k7⟩ := id a15
  have r : ∀ q, ¬ (q = 0 ∨ q = 4) → N'.1 q = N.1 q := fun q hq => (hs q hq).1
  refine ⟨by rw [h0 0 (by omega)]; exact a1, by rw [h2]; exact a2, by rw [h2]; exact a3, fun t ht => (a4 t ht).keep (by rw [r 2 (by omega)]) (by rw [r 1 (by omega)]) (fun _ _ => by rw [h2]), h1, hf, by rw [h0 10 (by omega)]; exact a7, by rw [h0 11 (by omega)]; exact a8, a9.keep k3 (fun k hk => by rw [r 5 (by omega)]) (fun _ _ => by rw [h2]), by rw [h0 25 (by omega)]; exact a10, fun m hm => (a11 m hm).keep (k5 m hm) (fun k hk => by rw [r 5 (by omega)]) (fun _ _ => by rw [h2]), by rw [h0 39 (by omega)]; exact a12, fun k hk => by rw [r 13 (by omega)]; exact a13 k hk, ?_, ⟨hn, hr, k3, k4, k5, k6, k7⟩⟩
  rw [h0 49 (by omega), r 16 (by omega)]
  exact a14
def sBuildAll (z : qZ) (a : Int32) : qZ × Bool := if qin a 4 then (if (zTr z a.toNatClampNeg).1 then (if qRs (zTr z a.toNatClampNeg) (qc (zP z)) = 0 then (uSt (uTn z (tcpy (qtH (zTr z a.toNatClampNeg)) (zT z) (qc (zP z)))) 0, true) else rb z (nI (qRs (zTr z a.toNatClampNeg) (qc (zP z))))) else rb z 3) else rb z 1
theorem tcpy_le {f g : Nat → Nat} {n : Nat} (hf : ∀ c, f c ≤ 99) (hg : ∀ c, g c ≤ 99) : ∀ c, tcpy f g n c ≤ 99 := fun c => by
  unfold tcpy
  split
  · exact hf c
  · exact hg c
theorem qRs_le (t : qT) (m : Nat) : qRs t m ≤ 5 := by
  unfold qRs
  split
  · omega
  · split <;> omega
section MOR
variable {x : jX} {d : Nat} {M : jM} {z : qZ}
theorem o_pour {P : jM → Bool → Prop} {a i b j n : Int32} (h : cI M z) (hP : ∀ M', cI M' (sPour z a i b j n).1 → P M' (sPour z a i b j n).2) : JC x jtbC mX11_pour (d + 1) [.ref (x.2.2.2 0), .int a, .int i, .int b, .int j, .int n] M (jZ P) := by
  unfold sPour at hP
  refine b_X11_pour (k_isTray ⟨fun q => ?_, fun q => k_isTray ⟨fun q2 => ?_, fun q2 => ?_⟩⟩)
  · rw [q] at hP; exact c_isDone h hP
  · rw [q, q2, if_pos (show (true && true) = true from rfl)] at hP
    obtain ⟨s, hs, rfl, e1⟩ := qin_0 q (by omega)
    obtain ⟨t, ht, rfl, e2⟩ := qin_0 q2 (by omega)
    rw [e1, e2] at hP
    have A := h.tr hs
    have B := h.tr ht
    refine ⟨s, hs, rfl, t, ht, rfl, ?_⟩
    rw [A.1, B.1, jb_0, jb_0]
    refine ⟨fun c => ?_, fun c => ⟨fun c2 => ?_, fun c2 => ?_⟩⟩
    · rw [c] at hP; exact c_isDone h hP
    · have c' : (zTr z s).1 = true := by revert c; cases (zTr z s).1 <;> simp
      have c2' : (zTr z t).1 = true := by revert c2; cases (zTr z t).1 <;> simp
      rw [c', c2', if_pos (show (true && true) = true from rfl)] at hP
      have s3 := A.2.2.2.1
      have t3 := B.2.2.2.1
      rw [A.2.1, B.2.1, nI_eq (by omega) (by omega)]
      refine ⟨fun c3 => ⟨fun c4 => k_hasPlaces (at9 hs) A ⟨fun c5 => ?_, fun c5 => k_hasPlaces (at9 ht) B ⟨fun c6 => ?_, fun c6 => ?_⟩⟩, fun c4 => ?_⟩, fun c3 => ?_⟩
      · rw [if_pos c3, if_pos c4, c5] at hP; exact c_isDone h hP
      · rw [if_pos c3, if_pos c4, c5, c6, if_pos (show (true && true) = true from rfl)] at hP
        have s6 := A.2.2.2.2.1
        have t6 := B.2.2.2.2.1
        obtain ⟨i', n', rfl, rfl, f1, f2, f3⟩ := qpl_t c5 s6
        obtain ⟨j', n2, rfl, g0, g1, g2, g3⟩ := qpl_t c6 t6
        obtain rfl : n' = n2 := by rw [← f2, ← g2]
        rw [f1, f2, g1] at hP
        refine ⟨i', rfl, j', rfl, n', rfl, by omega, by omega, ?_⟩
        rintro M8 rfl
        refine c_isDone (h.setTr ht (r := (true, (zTr z t).2.1, (zTr z t).2.2.1, va_cpy (zTr z s).2.2.2 (zTr z t).2.2.2 i' j' n')) (fun q _ => rfl) (fun q hq => jrL_n (by omega)) ⟨by rw [← c2']; exact B.1, B.2.1, B.2.2.1, B.2.2.2.1, B.2.2.2.2.1, fun k hk => ?_⟩) hP
        rw [jrL_s]
        have hk' : k < (zTr z t).2.2.1 := hk
        show va_cpy _ _ i' j' n' k = va_cpy _ _ i' j' n' k
        unfold va_cpy
        by_cases w : j' ≤ k ∧ k < j' + n'
        · rw [if_pos w, if_pos w]
          exact A.2.2.2.2.2 _ (by omega)
        · rw [if_neg w, if_neg w]
          exact B.2.2.2.2.2 k hk'
      · rw [if_pos c3, if_pos c4, c5, c6] at hP; exact c_isDone h hP
      · rw [if_pos c3, if_neg c4] at hP; exact c_isDone h hP
      · rw [if_neg c3] at hP; exact c_isDone h hP
    · have c' : (zTr z s).1 = true := by revert c; cases (zTr z s).1 <;> simp
      rw [c', c2] at hP; exact c_isDone h hP
  · rw [q, q2] at hP; exact c_isDone h hP
theorem n_pour {P : jM → Bool → Prop} {a i b j n : Int32} (h : mI M z) (hP : ∀ M', mI M' (sPour z a i b j n).1 → P M' (sPour z a i b j n).2) : JC x jtbM mX12_pour (d + 1) [.ref (x.2.2.2 0), .int a, .int i, .int b, .int j, .int n] M (jZ P) := by
  unfold sPour at hP
  refine b_X12_pour ?_
  rintro M1 rfl M2 rfl
  have h2 := (h.th 0).st 0
  generalize jrI (jrI M 0 (upd (M.1 0) 1 0)) 0 (upd ((jrI M 0 (upd (M.1 0) 1 0)).1 0) 0 0) = M2 at h2 ⊢
  refine qin_br2 (n := 4) (by decide) (fun q => ?_) (fun q => lt4 (fun q2 => ?_) (fun q2 => ?_))
  · rw [q] at hP; exact m_no h2 hP
  · rw [q, q2] at hP; exact m_no h2 hP
  · rw [q, q2, if_pos (show (true && true) = true from rfl)] at hP
    obtain ⟨s, hs, rfl, e1⟩ := qin_0 q (by omega)
    obtain ⟨t, ht, rfl, e2⟩ := qin_0 q2 (by omega)
    rw [e1, e2] at hP
    have A : mTr M2 s (zTr z s) := h2.tr hs
    have B : mTr M2 t (zTr z t) := h2.tr ht
    have s6 := A.2.2.2.2
    have t6 := B.2.2.2.2
    have s3 := A.2.2.2.1
    have t3 := B.2.2.2.1
    refine ⟨s, hs, rfl, ?_⟩
    by_cases cs : (zTr z s).1 = true
    · have as := A.1
      rw [if_pos cs] at as
      rw [as]
      refine ⟨fun c => absurd c (nI_pos (by omega)), fun _ => ⟨t, ht, rfl, ?_⟩⟩
      by_cases ct : (zTr z t).1 = true
      · have bt := B.1
        rw [if_pos ct] at bt
        rw [bt]
        refine ⟨fun _ => ?_, fun c => absurd (nI_pos' (by omega)) c⟩
        rw [cs, ct, if_pos (show (true && true) = true from rfl)] at hP
        rw [A.2.1 cs, B.2.1 ct, nI_eq (by omega) (by omega)]
        refine ⟨fun c3 => ⟨fun c4 => ?_, fun c4 => ?_⟩, fun c3 => ?_⟩
        · rw [if_pos c3, if_pos c4] at hP
          have z0 : (0 : Int32).toInt = 0 := rfl
          have ri := fb_rng i
          have rj := fb_rng j
          have rn := fb_rng n
          have w1 : (nI (zTr z s).2.2.1).toInt64.toInt = (zTr z s).2.2.1 := by rw [Int32.toInt_toInt64, nI_toInt (by omega)]
          have w2 : (nI (zTr z t).2.2.1).toInt64.toInt = (zTr z t).2.2.1 := by rw [Int32.toInt_toInt64, nI_toInt (by omega)]
          have w3 : (i.toInt64 + n.toInt64).toInt = i.toInt + n.toInt := by
            rw [fb_addL] <;> rw [Int32.toInt_toInt64, Int32.toInt_toInt64] <;> omega
          have w4 : (j.toInt64 + n.toInt64).toInt = j.toInt + n.toInt := by
            rw [fb_addL] <;> rw [Int32.toInt_toInt64, Int32.toInt_toInt64] <;> omega
          have c4' := c4
          rw [Int32.le_iff_toInt_le, z0] at c4'
          have no4 : (qpl (zTr z s) i n && qpl (zTr z t) j n) = false → JC x jtbM mX12_no d [.ref (x.2.2.2 0), .int (4 : Int32)] M2 (jZ fun M7 b5 => P M7 b5) := fun e => by rw [e] at hP; exact m_no h2 hP
          refine ⟨fun c5 => no4 ?_, fun c5 => ⟨fun c6 => no4 ?_, fun c6 => ⟨fun c7 => no4 ?_, fun c7 => ⟨fun c8 => ?_, fun c8 => no4 ?_⟩⟩⟩⟩
          · rw [Int32.lt_iff_toInt_lt, z0] at c5
            rw [show qpl (zTr z s) i n = false from decide_eq_false (by omega), Bool.false_and]
          · rw [Int32.lt_iff_toInt_lt, z0] at c6
            rw [show qpl (zTr z t) j n = false from decide_eq_false (by omega), Bool.and_false]
          · rw [Int64.lt_iff_toInt_lt, w1, w3] at c7
            rw [show qpl (zTr z s) i n = false from decide_eq_false (by omega), Bool.false_and]
          · rw [Int32.lt_iff_toInt_lt, z0] at c5 c6
            rw [Int64.lt_iff_toInt_lt, w1, w3] at c7
            rw [Int64.le_iff_toInt_le, w2, w4] at c8
            have p1 : qpl (zTr z s) i n = true := decide_eq_true (by omega)
            have p2 : qpl (zTr z t) j n = true := decide_eq_true (by omega)
            rw [p1, p2, if_pos (show (true && true) = true from rfl)] at hP
            obtain ⟨i', n', rfl, rfl, f1, f2, f3⟩ := qpl_t p1 s6
            obtain ⟨j', n2, rfl, g0, g1, g2, g3⟩ := qpl_t p2 t6
            obtain rfl : n' = n2 := by rw [← f2, ← g2]
            rw [f1, f2, g1] at hP
            clear no4 w1 w2 w3 w4 ri rj rn c4'
            -- the loop, upward or downward
            have fin : ∀ M' : jM, M'.1 = M2.1 → (∀ q, q ≠ 3 → M'.2 q = M2.2 q) → (∀ k, (k < 60 * t + j' ∨ 60 * t + j' + n' ≤ k) → M'.2 3 k = M2.2 3 k) → (∀ k, k < n' → M'.2 3 (60 * t + j' + k) = M2.2 3 (60 * s + i' + k)) → P M' true := by
              intro M' k1 k2 k3 k4
              refine hP _ (mI.setTr (z := uSt z 0) h2 ht (r := (true, (zTr z t).2.1, (zTr z t).2.2.1, va_cpy (zTr z s).2.2.2 (zTr z t).2.2.2 i' j' n')) (fun q _ _ => by rw [k1]) k2 (fun k _ => by rw [k1]) (fun k _ => by rw [k1]) (fun k hk => k3 k (by omega)) ⟨by rw [k1]; exact bt, fun _ => by rw [k1]; exact B.2.1 ct, fun _ k hk => ?_, t3, t6⟩)
              have hk' : k < (zTr z t).2.2.1 := hk
              show _ = va_cpy _ _ i' j' n' k
              unfold va_cpy
              by_cases w : j' ≤ k ∧ k < j' + n'
              · rw [if_pos w]
                have := k4 (k - j') (by omega)
                rw [show 60 * t + j' + (k - j') = 60 * t + k by omega, show 60 * s + i' + (k - j') = 60 * s + (i' + (k - j')) by omega] at this
                rw [this]
                exact A.2.2.1 cs _ (by omega)
              · rw [if_neg w, k3 _ (by omega)]
                exact B.2.2.1 ct k hk'
            have ap : s = t ∨ 60 * s + 60 ≤ 60 * t ∨ 60 * t + 60 ≤ 60 * s := by omega
            refine pk_le j' i' (fun up => ?_) (fun up => ?_)
            · refine jloop (fun m (M' : jM) => JW x jtbM mX12_pour (d + 1) (jZ P) 158 [(0, .ref (x.2.2.2 0)), (1, .int (nI s)), (2, .int (nI i')), (3, .int (nI t)), (4, .int (nI j')), (5, .int (nI n')), (6, .int (0 : Int32)), (7, .int (nI m))] [] M') (fun m M' => M'.1 = M2.1 ∧ (∀ q, q ≠ 3 → M'.2 q = M2.2 q) ∧ (∀ k, (k < 60 * t + j' ∨ 60 * t + j' + m ≤ k) → M'.2 3 k = M2.2 3 k) ∧ ∀ k, k < m → M'.2 3 (60 * t + j' + k) = M2.2 3 (60 * s + i' + k)) n' ?_ ?_ 0 M2 (Nat.zero_le _) ⟨rfl, fun _ _ => rfl, fun _ _ => rfl, fun k hk => absurd hk (Nat.not_lt_zero _)⟩
              · rintro M' ⟨k1, k2, k3, k4⟩
                exact b_X12_pour_158 (pk_le n' n' (fun _ => fin M' k1 k2 k3 k4) (fun c => absurd c (by omega)))
              · rintro m M' hm ⟨k1, k2, k3, k4⟩ ih
                refine b_X12_pour_158 (pk_le n' m (fun c => absurd c (by omega)) (fun _ => ⟨fun _ => ?_, fun c => absurd rfl c⟩))
                refine b_X12_pour_182 ⟨60 * s + i' + m, by omega, by rw [jn60, pk_mul, nI_add, nI_add], 60 * t + j' + m, by omega, by rw [jn60, pk_mul, nI_add, nI_add], ?_⟩
                rintro M3 rfl
                rw [nI_1]
                refine ih _ ⟨k1, fun q hq => by rw [jrL_n hq]; exact k2 q hq, fun k hk => by rw [jrL_s, pk_uLn (by omega)]; exact k3 k (by omega), fun k hk => ?_⟩
                rw [jrL_s]
                by_cases w : k = m
                · rw [w, pk_uLs]; exact k3 _ (by omega)
                · rw [pk_uLn (by omega)]; exact k4 k (by omega)
            · refine jloop (fun m (M' : jM) => JW x jtbM mX12_pour (d + 1) (jZ P) 158 [(0, .ref (x.2.2.2 0)), (1, .int (nI s)), (2, .int (nI i')), (3, .int (nI t)), (4, .int (nI j')), (5, .int (nI n')), (6, .int (1 : Int32)), (7, .int (nI m))] [] M') (fun m M' => M'.1 = M2.1 ∧ (∀ q, q ≠ 3 → M'.2 q = M2.2 q) ∧ (∀ k, (k < 60 * t + j' + (n' - m) ∨ 60 * t + j' + n' ≤ k) → M'.2 3 k = M2.2 3 k) ∧ ∀ k, n' - m ≤ k → k < n' → M'.2 3 (60 * t + j' + k) = M2.2 3 (60 * s + i' + k)) n' ?_ ?_ 0 M2 (Nat.zero_le _) ⟨rfl, fun _ _ => rfl, fun _ _ => rfl, fun k hk1 hk2 => absurd hk2 (by omega)⟩
              · rintro M' ⟨k1, k2, k3, k4⟩
                exact b_X12_pour_158 (pk_le n' n' (fun _ => fin M' k1 k2 (fun k hk => k3 k (by omega)) (fun k hk => k4 k (by omega) hk)) (fun c => absurd c (by omega)))
              · rintro m M' hm ⟨k1, k2, k3, k4⟩ ih
                refine b_X12_pour_158 (pk_le n' m (fun c => absurd c (by omega)) (fun _ => ⟨fun c => absurd c (by decide), fun _ => ?_⟩))
                have e9 : nI n' - 1 - nI m = nI (n' - 1 - m) := by rw [jn1, pk_sub (by omega), pk_sub (by omega)]
                rw [e9]
                refine b_X12_pour_182 ⟨60 * s + i' + (n' - 1 - m), by omega, by rw [jn60, pk_mul, nI_add, nI_add], 60 * t + j' + (n' - 1 - m), by omega, by rw [jn60, pk_mul, nI_add, nI_add], ?_⟩
                rintro M3 rfl
                rw [nI_1]
                refine ih _ ⟨k1, fun q hq => by rw [jrL_n hq]; exact k2 q hq, fun k hk => by rw [jrL_s, pk_uLn (by omega)]; exact k3 k (by omega), fun k hk1 hk2 => ?_⟩
                rw [jrL_s]
                by_cases w : k = n' - 1 - m
                · rw [w, pk_uLs]; exact k3 _ (by omega)
                · rw [pk_uLn (by omega)]; exact k4 k (by omega) hk2
          · rw [Int64.le_iff_toInt_le, w2, w4] at c8
            rw [show qpl (zTr z t) j n = false from decide_eq_false (by omega), Bool.and_false]
        · rw [if_pos c3, if_neg c4] at hP; exact m_no h2 hP
        · rw [if_neg c3] at hP; exact m_no h2 hP
      · have bt := B.1
        rw [if_neg ct] at bt
        rw [bt]
        have ct' : (zTr z t).1 = false := by revert ct; cases (zTr z t).1 <;> simp
        rw [ct', Bool.and_false] at hP
        exact ⟨fun c => absurd c (by decide), fun _ => m_no h2 hP⟩
    · have as := A.1
      rw [if_neg cs] at as
      rw [as]
      have cs' : (zTr z s).1 = false := by revert cs; cases (zTr z s).1 <;> simp
      rw [cs', Bool.false_and] at hP
      exact ⟨fun _ => m_no h2 hP, fun c => absurd (by decide) c⟩
theorem k_putBytes {P : jM → Prop} {v : Int32} {t : Nat} (h0 : M.1 0 14 = nI t) (ht : t + 4 ≤ 900) (h : ∀ M', jsame (fun q => q = 0 ∨ q = 2) M M' → M'.2 = M.2 → (∀ k, k ≠ 14 → M'.1 0 k = M.1 0 k) → M'.1 0 14 = nI (t + 4) → (∀ k, k < t → M'.1 2 k = M.1 2 k) → (∀ q, q < 4 → M'.1 2 (t + q) = qByte v q) → P M') : JC x jtbC mX11_putBytes d [.ref (x.2.2.2 0), .int v] M (jV P) := by
  refine b_X11_putBytes ?_
  refine jloop (fun i (s : jM × Int32) => JW x jtbC mX11_putBytes d (jV P) 3 [(0, .ref (x.2.2.2 0)), (1, .int v), (2, .int s.2)] [] s.1) (fun i s => s.2 = Int32.ofInt (24 - 8 * (i : Int)) ∧ jsame (fun q => q = 0 ∨ q = 2) M s.1 ∧ s.1.2 = M.2 ∧ (∀ k, k ≠ 14 → s.1.1 0 k = M.1 0 k) ∧ s.1.1 0 14 = nI (t + i) ∧ (∀ k, k < t → s.1.1 2 k = M.1 2 k) ∧ ∀ q, q < i → s.1.1 2 (t + q) = qByte v q) 4 ?_ ?_ 0 (M, 24) (Nat.zero_le _) ⟨rfl, jsame.rf, rfl, fun _ _ => rfl, h0, fun _ _ => rfl, fun q hq => absurd hq (Nat.not_lt_zero _)⟩
  · rintro ⟨M', l⟩ ⟨g0, g1, g2, g3, g4, g5, g6⟩
    dsimp only at g0 g1 g2 g3 g4 g5 g6 ⊢
    refine b_X11_putBytes_3 ⟨fun _ => h M' g1 g2 g3 g4 g5 g6, fun c => absurd (by rw [g0]; decide) c⟩
  · rintro i ⟨M', l⟩ hi ⟨g0, g1, g2, g3, g4, g5, g6⟩ ih
    dsimp only at g0 g1 g2 g3 g4 g5 g6 ⊢
    have hl : l = nI (24 - 8 * i) ∧ ¬ l < 0 ∧ l + (-8) = Int32.ofInt (24 - 8 * ((i + 1 : Nat) : Int)) := by
      rcases (show i = 0 ∨ i = 1 ∨ i = 2 ∨ i = 3 by omega) with rfl | rfl | rfl | rfl <;> rw [g0] <;> decide
    refine b_X11_putBytes_3 ⟨fun c => absurd c hl.2.1, fun _ => ?_⟩
    rw [g4, jn900]
    refine ⟨fun c => absurd c (by rw [nI_leI (by omega) (by omega)]; omega), fun _ => ⟨t + i, by omega, rfl, ?_⟩⟩
    intro M1 e1 M2 e2
    refine ih (M2, _) ⟨hl.2.2, ?_, by rw [e2, e1]; exact g2, ?_, ?_, ?_, ?_⟩ <;> dsimp only <;> rw [e2, e1]
    · intro q hq
      have := g1 q hq
      exact ⟨by rw [jrI_n (by omega), jrI_n (by omega)]; exact this.1, this.2⟩
    · intro k hk
      rw [jrI_s, pk_un hk, jrI_n (by omega)]; exact g3 k hk
    · rw [jrI_s, pk_us, jrI_n (by omega), g4, nI_1]; rfl
    · intro k hk
      rw [jrI_n (by omega), jrI_s, pk_un (by omega)]; exact g5 k hk
    · intro q hq
      rw [jrI_n (by omega), jrI_s]
      by_cases w : q = i
      · rw [w, pk_us, fb_byte_twice, hl.1]; rfl
      · rw [pk_un (by omega)]; exact g6 q (by omega)
theorem k_lay {P : jM → Prop} {v : Int32} {t : Nat} (h0 : M.1 0 8 = nI t) (ht : t + 4 ≤ 900) (h : ∀ M', jsame (fun q => q = 0 ∨ q = 4) M M' → M'.2 = M.2 → (∀ k, k ≠ 8 → M'.1 0 k = M.1 0 k) → M'.1 0 8 = nI (t + 4) → (∀ k, k < t → M'.1 4 k = M.1 4 k) → (∀ q, q < 4 → M'.1 4 (t + q) = qByte v q) → P M') : JC x jtbM mX12_lay d [.ref (x.2.2.2 0), .int v] M (jV P) := by
  refine b_X12_lay ?_
  refine jloop (fun i (s : jM × Int32) => JW x jtbM mX12_lay d (jV P) 2 [(0, .ref (x.2.2.2 0)), (1, .int v), (2, .int s.2)] [] s.1) (fun i s => s.2 = Int32.ofInt (3 - (i : Int)) ∧ jsame (fun q => q = 0 ∨ q = 4) M s.1 ∧ s.1.2 = M.2 ∧ (∀ k, k ≠ 8 → s.1.1 0 k = M.1 0 k) ∧ s.1.1 0 8 = nI (t + i) ∧ (∀ k, k < t → s.1.1 4 k = M.1 4 k) ∧ ∀ q, q < i → s.1.1 4 (t + q) = qByte v q) 4 ?_ ?_ 0 (M, 3) (Nat.zero_le _) ⟨rfl, jsame.rf, rfl, fun _ _ => rfl, h0, fun _ _ => rfl, fun q hq => absurd hq (Nat.not_lt_zero _)⟩
  · rintro ⟨M', l⟩ ⟨g0, g1, g2, g3, g4, g5, g6⟩
    dsimp only at g0 g1 g2 g3 g4 g5 g6 ⊢
    refine b_X12_lay_2 ⟨fun _ => h M' g1 g2 g3 g4 g5 g6, fun c => absurd (by rw [g0]; decide) c⟩
  · rintro i ⟨M', l⟩ hi ⟨g0, g1, g2, g3, g4, g5, g6⟩ ih
    dsimp only at g0 g1 g2 g3 g4 g5 g6 ⊢
    have hl : (8 : Int32) * l = nI (24 - 8 * i) ∧ ¬ l < 0 ∧ l + (-1) = Int32.ofInt (3 - ((i + 1 : Nat) : Int)) := by
      rcases (show i = 0 ∨ i = 1 ∨ i = 2 ∨ i = 3 by omega) with rfl | rfl | rfl | rfl <;> rw [g0] <;> decide
    refine b_X12_lay_2 ⟨fun c => absurd c hl.2.1, fun _ => ?_⟩
    rw [g4]
    refine ⟨t + i, by omega, rfl, ?_⟩
    intro M1 e1 M2 e2
    refine ih (M2, _) ⟨hl.2.2, ?_, by rw [e2, e1]; exact g2, ?_, ?_, ?_, ?_⟩ <;> dsimp only <;> rw [e2, e1]
    · intro q hq
      have := g1 q hq
      exact ⟨by rw [jrI_n (by omega), jrI_n (by omega)]; exact this.1, this.2⟩
    · intro k hk
      rw [jrI_s, pk_un hk, jrI_n (by omega)]; exact g3 k hk
    · rw [jrI_s, pk_us, jrI_n (by omega), g4, nI_1]; rfl
    · intro k hk
      rw [jrI_n (by omega), jrI_s, pk_un (by omega)]; exact g5 k hk
    · intro q hq
      rw [jrI_n (by omega), jrI_s]
      by_cases w : q = i
      · rw [w, pk_us, fb_byte_twice, hl.1]; rfl
      · rw [pk_un (by omega)]; exact g6 q (by omega)
end MOR
