/-! marks; one tower down; struck -/
theorem cI.setMk {M M' : jM} {z : qZ} {n : Nat} {f : Nat → qW} {w : qW} (h : cI M z) (h1 : ∀ q, ¬ (29 < q ∧ q < 48) → ¬ (85 ≤ q) → q ≠ 0 → M'.1 q = M.1 q ∧ M'.2 q = M.2 q) (h0 : ∀ k, k ≠ 15 → M'.1 0 k = M.1 0 k) (hn : n ≤ 3) (hc : M'.1 0 15 = nI n) (hw : cWd M' 29 w) (hf : ∀ m, m < n → cWd M' (85 + 19 * m) (f m)) (ok : oOk w.1 w.2.2) (okf : ∀ m, m < n → oOk (f m).1 (f m).2.2) : cI M' (uMk (uNw z w) (n, f)) := by
  obtain ⟨a1, a2, a3, a4, a5, a6, a7, a8, a9, a10, a11, a12, a13, a14, a15, a16⟩ := h
  obtain ⟨k1, k2, k3, k4, k5, k6, k7⟩ := id a16
  refine ⟨by rw [h0 16 (by omega)]; exact a1, by rw [(h1 75 (by omega) (by omega) (by omega)).2]; exact a2, by rw [(h1 75 (by omega) (by omega) (by omega)).2]; exact a3, fun t ht => (a4 t ht).keep (h1 _ (by omega) (by omega) (by omega)).1 (h1 _ (by omega) (by omega) (by omega)).2, by rw [h0 14 (by omega)]; exact a5, fun k hk => by rw [(h1 2 (by omega) (by omega) (by omega)).1]; exact a6 k hk, by rw [(h1 76 (by omega) (by omega) (by omega)).1]; exact a7, by rw [(h1 76 (by omega) (by omega) (by omega)).1]; exact a8, hw, hc, hf, by rw [(h1 62 (by omega) (by omega) (by omega)).1]; exact a12, fun k hk => by rw [(h1 65 (by omega) (by omega) (by omega)).1]; exact a13 k hk, fun k hk => by rw [(h1 74 (by omega) (by omega) (by omega)).1]; exact a14 k hk, fun k hk => by rw [(h1 14 (by omega) (by omega) (by omega)).2, (h1 26 (by omega) (by omega) (by omega)).2]; exact a15 k hk, ⟨k1, k2, ok, hn, okf, k6, k7⟩⟩
theorem mI.setMk {N N' : jM} {z : qZ} {n : Nat} {f : Nat → qW} {w : qW} (h : mI N z) (h1 : ∀ q, q ≠ 0 → q ≠ 5 → q ≠ 6 → N'.1 q = N.1 q ∧ N'.2 q = N.2 q) (h2 : N'.2 0 = N.2 0) (h0 : ∀ k, k ≠ 25 → N'.1 0 k = N.1 0 k) (hn : n ≤ 3) (hc : N'.1 0 25 = nI n) (hw : mWd N' 0 w) (hf : ∀ m, m < n → mWd N' (m + 1) (f m)) (ok : oOk w.1 w.2.2) (okf : ∀ m, m < n → oOk (f m).1 (f m).2.2) : mI N' (uMk (uNw z w) (n, f)) := by
  obtain ⟨a1, a2, a3, a4, a5, a6, a7, a8, a9, a10, a11, a12, a13, a14, a15⟩ := h
  obtain ⟨k1, k2, k3, k4, k5, k6, k7⟩ := id a15
  refine ⟨by rw [h0 0 (by omega)]; exact a1, by rw [h2]; exact a2, by rw [h2]; exact a3, fun t ht => (a4 t ht).keep (by rw [(h1 2 (by omega) (by omega) (by omega)).1]) (by rw [(h1 1 (by omega) (by omega) (by omega)).1]) (fun _ _ => by rw [(h1 3 (by omega) (by omega) (by omega)).2]), by rw [h0 8 (by omega)]; exact a5, fun k hk => by rw [(h1 4 (by omega) (by omega) (by omega)).1]; exact a6 k hk, by rw [h0 10 (by omega)]; exact a7, by rw [h0 11 (by omega)]; exact a8, hw, hc, hf, by rw [h0 39 (by omega)]; exact a12, fun k hk => by rw [(h1 13 (by omega) (by omega) (by omega)).1]; exact a13 k hk, ?_, ⟨k1, k2, ok, hn, okf, k6, k7⟩⟩
  rw [h0 49 (by omega), (h1 16 (by omega) (by omega) (by omega)).1]
  exact a14
theorem mWd.move {N N' : jM} {b b' : Nat} {w : qW} (h : mWd N b w) (hk : oOk w.1 w.2.2) (h1 : ∀ k, k < 412 → N'.1 5 (412 * b' + k) = N.1 5 (412 * b + k)) (h2 : ∀ k, k < 6 → N'.2 6 (6 * b' + k) = N.2 6 (6 * b + k)) : mWd N' b' w := by
  obtain ⟨a1, a2, a3, a4⟩ := h
  have h6 := a1.wf.2.2.2.1
  exact ⟨a1.keep (fun k hk => h1 k (by omega)), fun v hv => by rw [h2 v (by omega)]; exact a2 v hv, a3.keep a1.wf (fun k _ hk => h1 k (by omega)), a4.keep hk (fun k _ hk => h1 k hk)⟩
def qDn (pl : qP) (f : Nat → Nat) (c : Nat) : Nat → Nat
  | 0 => 0
  | v + 1 => qDn pl f c v + (if qG (qw pl) (qh pl) (qSide pl v) (qFv pl v c) (tset f c (min (f c) (qLeast pl c))) (qc pl) = qG (qw pl) (qh pl) (qSide pl v) (qFv pl v c) f (qc pl) then 0 else 1)
theorem qDn_le (pl : qP) (f : Nat → Nat) (c : Nat) : ∀ v, qDn pl f c v ≤ v
  | 0 => Nat.le_refl _
  | v + 1 => by
    have := qDn_le pl f c v
    show qDn pl f c v + (if _ then 0 else 1) ≤ v + 1
    split <;> omega
def sDown (z : qZ) (a : Int32) : qZ × Int32 := if qin a (qc (zP z)) then an z (nI (qDn (zP z) (zT z) a.toNatClampNeg (qn (zP z)))) else rf z 2
section MKS
variable {x : jX} {d : Nat} {M : jM} {z : qZ}
theorem o_mark {P : jM → Int32 → Prop} (h : cI M z) (hP : ∀ M', cI M' (sMark z).1 → P M' (sMark z).2) : JC x jtbC mX11_mark (d + 3) [.ref (x.2.2.2 0)] M (jI P) := by
  unfold sMark at hP
  obtain ⟨-, -, ok1, k4, k5, -, -⟩ := h.ok
  have e15 : M.1 0 15 = nI (zMk z).1 := h.2.2.2.2.2.2.2.2.2.1
  have hm : ∀ m, m < (zMk z).1 → cWd M (85 + 19 * m) ((zMk z).2 m) := h.2.2.2.2.2.2.2.2.2.2.1
  refine b_X11_mark ?_
  rw [e15]
  refine pk_lt (zMk z).1 3 (fun q => ⟨(zMk z).1, q, rfl, ?_⟩) (fun q => ?_)
  · rw [if_pos q] at hP
    refine k_copyWd (at10 q) atC10_29 h.nw (by omega) (fun M1 g1 g2 => ?_)
    rintro M2 rfl
    have e0 : M1.1 0 15 = nI (zMk z).1 := by rw [(g1 0 (by omega)).1]; exact e15
    have e1 : (jrI M1 0 (upd (M1.1 0) 15 (M1.1 0 15 + 1))).1 0 15 = nI ((zMk z).1 + 1) := by rw [jrI_s, pk_us, e0, nI_1]
    rw [e1]
    refine c_answered (z := uMk (uNw z (zNw z)) ((zMk z).1 + 1, mkset (zMk z).2 (zMk z).1 (zNw z))) (h.setMk (w := zNw z) (f := mkset (zMk z).2 (zMk z).1 (zNw z)) (fun q q1 q2 q3 => ?_) (fun k hk => ?_) (by omega) e1 ?_ (fun m hm' => ?_) ok1 (fun m hm' => ?_)) hP
    · have := g1 q (by omega)
      exact ⟨by rw [jrI_n q3]; exact this.1, this.2⟩
    · rw [jrI_s, pk_un hk, (g1 0 (by omega)).1]
    · refine h.nw.keep (fun q q1 q2 q3 => ?_) ?_
      · rw [jrI_n (by omega), (g1 q (by omega)).1]
      · rw [jrI_2, (g1 _ (by omega)).2]
    · show cWd _ (85 + 19 * m) (if m = (zMk z).1 then zNw z else (zMk z).2 m)
      by_cases w : m = (zMk z).1
      · rw [if_pos w, w]
        exact g2.keep (fun q q1 q2 q3 => by rw [jrI_n (by omega)]) rfl
      · rw [if_neg w]
        refine (hm m (by omega)).keep (fun q q1 q2 q3 => ?_) ?_
        · rw [jrI_n (by omega), (g1 q (by omega)).1]
        · rw [jrI_2, (g1 _ (by omega)).2]
    · show oOk (if m = (zMk z).1 then zNw z else (zMk z).2 m).1 (if m = (zMk z).1 then zNw z else (zMk z).2 m).2.2
      by_cases w : m = (zMk z).1
      · rw [if_pos w]; exact ok1
      · rw [if_neg w]; exact k5 m (by omega)
  · rw [if_neg (by omega)] at hP
    exact c_refused h hP
theorem o_back {P : jM → Int32 → Prop} (h : cI M z) (hP : ∀ M', cI M' (sBack z).1 → P M' (sBack z).2) : JC x jtbC mX11_back (d + 3) [.ref (x.2.2.2 0)] M (jI P) := by
  unfold sBack at hP
  obtain ⟨-, -, ok1, k4, k5, -, -⟩ := h.ok
  have e15 : M.1 0 15 = nI (zMk z).1 := h.2.2.2.2.2.2.2.2.2.1
  have hm : ∀ m, m < (zMk z).1 → cWd M (85 + 19 * m) ((zMk z).2 m) := h.2.2.2.2.2.2.2.2.2.2.1
  refine b_X11_back ?_
  rw [e15]
  refine pk_lt 0 (zMk z).1 (fun q => ?_) (fun q => ?_)
  · rw [if_pos q] at hP
    rintro M1 rfl
    have e1 : (jrI M 0 (upd (M.1 0) 15 (nI (zMk z).1 - 1))).1 0 15 = nI ((zMk z).1 - 1) := by rw [jrI_s, pk_us, jn1, pk_sub (by omega)]
    refine ⟨(zMk z).1 - 1, by omega, e1, ?_⟩
    have hk : cWd (jrI M 0 (upd (M.1 0) 15 (nI (zMk z).1 - 1))) (85 + 19 * ((zMk z).1 - 1)) ((zMk z).2 ((zMk z).1 - 1)) := (hm _ (by omega)).keep (fun q q1 q2 q3 => by rw [jrI_n (by omega)]) rfl
    refine k_copyWd atC10_29 (at10 (by omega)) hk (by omega) (fun M2 g1 g2 => ?_)
    have e2 : M2.1 0 15 = nI ((zMk z).1 - 1) := by rw [(g1 0 (by omega)).1]; exact e1
    rw [e2]
    refine c_answered (z := uMk (uNw z ((zMk z).2 ((zMk z).1 - 1))) ((zMk z).1 - 1, (zMk z).2)) (h.setMk (w := (zMk z).2 ((zMk z).1 - 1)) (f := (zMk z).2) (fun q q1 q2 q3 => ?_) (fun k hk => ?_) (by omega) e2 g2 (fun m hm' => ?_) (k5 _ (by omega)) (fun m hm' => k5 m (by omega))) hP
    · have := g1 q (by omega)
      exact ⟨by rw [this.1, jrI_n q3], this.2⟩
    · rw [(g1 0 (by omega)).1, jrI_s, pk_un hk]
    · refine (hm m (by omega)).keep (fun q q1 q2 q3 => ?_) ?_
      · rw [(g1 q (by omega)).1, jrI_n (by omega)]
      · rw [(g1 _ (by omega)).2, jrI_2]
  · rw [if_neg (by omega)] at hP
    exact c_refused h hP
theorem k_mCopy {P : jM → Prop} {a b : Nat} (ha : a ≤ 3) (hb : b ≤ 3) (hab : a ≠ b) (h : ∀ M', (∀ q, q ≠ 5 → M'.1 q = M.1 q) → (∀ q, q ≠ 6 → M'.2 q = M.2 q) → (∀ k, k < 412 → M'.1 5 (412 * b + k) = M.1 5 (412 * a + k)) → (∀ k, (k < 412 * b ∨ 412 * b + 412 ≤ k) → M'.1 5 k = M.1 5 k) → (∀ k, k < 6 → M'.2 6 (6 * b + k) = M.2 6 (6 * a + k)) → (∀ k, (k < 6 * b ∨ 6 * b + 6 ≤ k) → M'.2 6 k = M.2 6 k) → P M') : JC x jtbM mX12_copy d [.ref (x.2.2.2 0), .int (nI a), .int (nI b)] M (jV P) := by
  refine b_X12_copy ?_
  refine jloop (fun i (M' : jM) => JW x jtbM mX12_copy d (jV P) 2 [(0, .ref (x.2.2.2 0)), (1, .int (nI a)), (2, .int (nI b)), (3, .int (nI i))] [] M') (fun i M' => (∀ q, q ≠ 5 → M'.1 q = M.1 q) ∧ M'.2 = M.2 ∧ (∀ k, k < i → M'.1 5 (412 * b + k) = M.1 5 (412 * a + k)) ∧ ∀ k, (k < 412 * b ∨ 412 * b + i ≤ k) → M'.1 5 k = M.1 5 k) 412 ?_ ?_ 0 M (Nat.zero_le _) ⟨fun _ _ => rfl, rfl, fun k hk => absurd hk (Nat.not_lt_zero _), fun _ _ => rfl⟩
  · rintro M1 ⟨g1, g2, g3, g4⟩
    refine b_X12_copy_2 (pk_le 412 412 (fun _ => ?_) (fun c => absurd c (by omega)))
    refine jloop (fun i (M' : jM) => JW x jtbM mX12_copy d (jV P) 41 [(0, .ref (x.2.2.2 0)), (1, .int (nI a)), (2, .int (nI b)), (3, .int (nI i))] [] M') (fun i M' => M'.1 = M1.1 ∧ (∀ q, q ≠ 6 → M'.2 q = M.2 q) ∧ (∀ k, k < i → M'.2 6 (6 * b + k) = M.2 6 (6 * a + k)) ∧ ∀ k, (k < 6 * b ∨ 6 * b + i ≤ k) → M'.2 6 k = M.2 6 k) 6 ?_ ?_ 0 M1 (Nat.zero_le _) ⟨rfl, fun _ _ => by rw [g2], fun k hk => absurd hk (Nat.not_lt_zero _), fun _ _ => by rw [g2]⟩
    · rintro M2 ⟨k1, k2, k3, k4⟩
      refine b_X12_copy_41 (pk_le 6 6 (fun _ => ?_) (fun c => absurd c (by omega)))
      exact h M2 (fun q hq => by rw [k1]; exact g1 q hq) k2 (fun k hk => by rw [k1]; exact g3 k hk) (fun k hk => by rw [k1]; exact g4 k hk) k3 k4
    · rintro i M2 hi ⟨k1, k2, k3, k4⟩ ih
      refine b_X12_copy_41 (pk_le 6 i (fun c => absurd c (by omega)) (fun _ => ⟨6 * a + i, by omega, by rw [jn6, pk_mul, nI_add], 6 * b + i, by omega, by rw [jn6, pk_mul, nI_add], ?_⟩))
      rintro M3 rfl
      rw [nI_1]
      refine ih _ ⟨k1, fun q hq => by rw [jrL_n hq]; exact k2 q hq, fun k hk => ?_, fun k hk => by rw [jrL_s, pk_uLn (by omega)]; exact k4 k (by omega)⟩
      rw [jrL_s]
      by_cases w : k = i
      · rw [w, pk_uLs]; exact k4 _ (by omega)
      · rw [pk_uLn (by omega)]; exact k3 k (by omega)
  · rintro i M1 hi ⟨g1, g2, g3, g4⟩ ih
    refine b_X12_copy_2 (pk_le 412 i (fun c => absurd c (by omega)) (fun _ => ⟨412 * a + i, by omega, by rw [jn412, pk_mul, nI_add], 412 * b + i, by omega, by rw [jn412, pk_mul, nI_add], ?_⟩))
    rintro M3 rfl
    rw [nI_1]
    refine ih _ ⟨fun q hq => by rw [jrI_n hq]; exact g1 q hq, g2, fun k hk => ?_, fun k hk => by rw [jrI_s, pk_un (by omega)]; exact g4 k (by omega)⟩
    rw [jrI_s]
    by_cases w : k = i
    · rw [w, pk_us]; exact g4 _ (by omega)
    · rw [pk_un (by omega)]; exact g3 k (by omega)
theorem n_mark {P : jM → Int32 → Prop} (h : mI M z) (hP : ∀ M', mI M' (sMark z).1 → P M' (sMark z).2) : JC x jtbM mX12_mark (d + 1) [.ref (x.2.2.2 0)] M (jI P) := by
  unfold sMark at hP
  refine b_X12_mark ?_
  rintro M1 rfl M2 rfl
  have h2 := (h.th 0).st 0
  generalize jrI (jrI M 0 (upd (M.1 0) 1 0)) 0 (upd ((jrI M 0 (upd (M.1 0) 1 0)).1 0) 0 0) = M2 at h2 ⊢
  obtain ⟨-, -, ok1, k4, k5, -, -⟩ := h.ok
  have e15 : M2.1 0 25 = nI (zMk z).1 := h2.2.2.2.2.2.2.2.2.2.1
  have hm : ∀ m, m < (zMk z).1 → mWd M2 (m + 1) ((zMk z).2 m) := h2.2.2.2.2.2.2.2.2.2.2.1
  rw [e15]
  rcases Nat.lt_or_ge (zMk z).1 3 with q | q
  · rw [if_pos q] at hP
    refine ⟨fun _ => ?_, fun c => absurd ((nI_eq (b := 3) (by omega) (by omega)).mp c) (by omega)⟩
    rintro M3 rfl
    have e3 : (jrI M2 0 (upd (M2.1 0) 25 (nI (zMk z).1 + 1))).1 0 25 = nI ((zMk z).1 + 1) := by rw [jrI_s, pk_us, nI_1]
    rw [e3]
    refine k_mCopy (a := 0) (b := (zMk z).1 + 1) (by omega) (by omega) (by omega) (fun M4 g1 g2 g3 g4 g5 g6 => ?_)
    have e4 : M4.1 0 25 = nI ((zMk z).1 + 1) := by rw [g1 0 (by omega)]; exact e3
    rw [e4]
    refine hP _ (mI.setMk (z := uSt z 0) (w := zNw z) (f := mkset (zMk z).2 (zMk z).1 (zNw z)) h2 (fun q q1 q2 q3 => ⟨by rw [g1 q q2, jrI_n q1], g2 q q3⟩) (g2 0 (by omega)) (fun k hk => by rw [g1 0 (by omega), jrI_s, pk_un hk]) (by omega) e4 ?_ (fun m hm' => ?_) ok1 (fun m hm' => ?_))
    · refine h2.nw.keep ok1 (fun k hk => ?_) (fun k hk => ?_)
      · rw [g4 _ (by omega), jrI_n (by omega)]
      · rw [g6 _ (by omega)]; rfl
    · show mWd _ (m + 1) (if m = (zMk z).1 then zNw z else (zMk z).2 m)
      by_cases w : m = (zMk z).1
      · rw [if_pos w, w]
        refine h2.nw.move ok1 (fun k hk => ?_) (fun k hk => ?_)
        · rw [g3 k hk, jrI_n (by omega)]
        · rw [g5 k hk]; rfl
      · rw [if_neg w]
        refine (hm m (by omega)).keep (k5 m (by omega)) (fun k hk => ?_) (fun k hk => ?_)
        · rw [g4 _ (by omega), jrI_n (by omega)]
        · rw [g6 _ (by omega)]; rfl
    · show oOk (if m = (zMk z).1 then zNw z else (zMk z).2 m).1 (if m = (zMk z).1 then zNw z else (zMk z).2 m).2.2
      by_cases w : m = (zMk z).1
      · rw [if_pos w]; exact ok1
      · rw [if_neg w]; exact k5 m (by omega)
  · rw [if_neg (by omega)] at hP
    have : (zMk z).1 = 3 := by omega
    rw [this]
    exact ⟨fun c => absurd rfl c, fun _ => m_refuse h2 hP⟩
theorem n_back {P : jM → Int32 → Prop} (h : mI M z) (hP : ∀ M', mI M' (sBack z).1 → P M' (sBack z).2) : JC x jtbM mX12_back (d + 1) [.ref (x.2.2.2 0)] M (jI P) := by
  unfold sBack at hP
  refine b_X12_back ?_
  rintro M1 rfl M2 rfl
  have h2 := (h.th 0).st 0
  generalize jrI (jrI M 0 (upd (M.1 0) 1 0)) 0 (upd ((jrI M 0 (upd (M.1 0) 1 0)).1 0) 0 0) = M2 at h2 ⊢
  obtain ⟨-, -, ok1, k4, k5, -, -⟩ := h.ok
  have e15 : M2.1 0 25 = nI (zMk z).1 := h2.2.2.2.2.2.2.2.2.2.1
  have hm : ∀ m, m < (zMk z).1 → mWd M2 (m + 1) ((zMk z).2 m) := h2.2.2.2.2.2.2.2.2.2.2.1
  rw [e15]
  rcases Nat.eq_zero_or_pos (zMk z).1 with q | q
  · rw [if_neg (by omega)] at hP
    rw [q]
    exact ⟨fun c => absurd rfl c, fun _ => m_refuse h2 hP⟩
  · rw [if_pos q] at hP
    refine ⟨fun _ => ?_, fun c => absurd ((nI_eq (b := 0) (by omega) (by omega)).mp c) (by omega)⟩
    refine k_mCopy (a := (zMk z).1) (b := 0) (by omega) (by omega) (by omega) (fun M3 g1 g2 g3 g4 g5 g6 => ?_)
    rintro M4 rfl
    have e4 : (jrI M3 0 (upd (M3.1 0) 25 (M3.1 0 25 - 1))).1 0 25 = nI ((zMk z).1 - 1) := by rw [jrI_s, pk_us, g1 0 (by omega), e15, jn1, pk_sub (by omega)]
    rw [e4]
    refine hP _ (mI.setMk (z := uSt z 0) (w := (zMk z).2 ((zMk z).1 - 1)) (f := (zMk z).2) h2 (fun q q1 q2 q3 => ⟨by rw [jrI_n q1]; exact g1 q q2, g2 q q3⟩) (g2 0 (by omega)) (fun k hk => by rw [jrI_s, pk_un hk, g1 0 (by omega)]) (by omega) e4 ?_ (fun m hm' => ?_) (k5 _ (by omega)) (fun m hm' => k5 m (by omega)))
    · refine (hm ((zMk z).1 - 1) (by omega)).move (k5 _ (by omega)) (fun k hk => ?_) (fun k hk => ?_)
      · rw [jrI_n (by omega), g3 k hk, show (zMk z).1 - 1 + 1 = (zMk z).1 by omega]
      · rw [show (zMk z).1 - 1 + 1 = (zMk z).1 by omega]; exact g5 k hk
    · refine (hm m (by omega)).keep (k5 m (by omega)) (fun k hk => ?_) (fun k hk => ?_)
      · rw [jrI_n (by omega), g4 _ (by omega)]
      · exact g6 _ (by omega)
theorem o_down {P : jM → Int32 → Prop} {a : Int32} (h : cI M z) (hP : ∀ M', cI M' (sDown z a).1 → P M' (sDown z a).2) : JC x jtbC mX11_down (d + 2) [.ref (x.2.2.2 0), .int a] M (jI P) := by
  unfold sDown at hP
  have h25 := h.pl.wf.c25
  have h6 := h.pl.wf.2.2.2.1
  refine b_X11_down (k_hasCell atC5_30 h.pl ⟨fun c => ?_, fun c => ?_⟩)
  · rw [if_pos c] at hP
    obtain ⟨j, hj, rfl, e⟩ := qin_0 c (by omega)
    rw [e] at hP
    refine ⟨qc (zP z), h.pl.c, by omega, by omega, ?_⟩
    rintro M2 rfl
    refine ⟨j, by omega, rfl, ?_⟩
    have h2 : cI (jrI M 73 (va_cpy (M.1 39) (M.1 73) 0 0 (qc (zP z)))) z := h.scr ((jsame.I (S := fun q => q = 73) rfl).mono (fun q hq => by unfold cScr; omega))
    have e32 : (jrI M 73 (va_cpy (M.1 39) (M.1 73) 0 0 (qc (zP z)))).1 32 j = nI (qLeast (zP z) j) := h2.pl.least (by omega)
    rw [e32, jrI_s, va_cpy0 hj, h.tw j (by omega)]
    have t9 := h.t9
    have l9 := h.pl.wf.2.2.2.2.2.2.2.1
    refine k_minN (by have := t9 j; omega) (by have := l9 j; omega) ?_
    rintro M4 e4
    have rows : ∀ c, c < qc (zP z) → M4.1 73 c = nI (tset (zT z) j (min (zT z j) (qLeast (zP z) j)) c) := by
      intro c hc
      rw [e4, jrI_s]
      unfold tset
      by_cases w : c = j
      · rw [w, pk_us, if_pos rfl]
      · rw [pk_un w, if_neg w, jrI_s, va_cpy0 hc, h.tw c (by omega)]
    have h4 : cI M4 z := by
      rw [e4]
      exact h2.scr ((jsame.I (S := fun q => q = 73) rfl).mono (fun q hq => by unfold cScr; omega))
    clear e4
    have b4 : ∀ c, tset (zT z) j (min (zT z j) (qLeast (zP z) j)) c ≤ 99 := tset_le t9 (Nat.le_trans (Nat.min_le_left _ _) (t9 j))
    refine jloop (fun v (s : Int32) => JW x jtbC mX11_down (d + 2) (jI P) 68 [(0, .ref (x.2.2.2 0)), (1, .int (nI j)), (2, .ref (x.2.2.2 30)), (3, .int s), (4, .int (nI v))] [] M4) (fun v s => s = nI (qDn (zP z) (zT z) j v)) (qn (zP z)) ?_ ?_ 0 0 (Nat.zero_le _) rfl
    · rintro _ rfl
      refine b_X11_down_68 ?_
      rw [h4.pl.n]
      exact pk_le (qn (zP z)) (qn (zP z)) (fun _ => c_answered h4 hP) (fun c => absurd c (by omega))
    · rintro v _ hv rfl ih
      refine b_X11_down_68 ?_
      rw [h4.pl.n]
      refine pk_le (qn (zP z)) v (fun c => absurd c (by omega)) (fun _ => ⟨v, by omega, rfl, ?_⟩)
      rw [show M4.1 35 v = _ from h4.pl.side hv]
      have s8 := h.pl.wf.2.2.2.2.2.2.2.2.2.1 v
      have hF := qF_lt s8 hj
      have h9 := qS_le (side := qSide (zP z) v) h.pl.wf.1 h.pl.wf.2.1
      refine k_stripAt atC5_30 h4.pl s8 hj ?_
      refine k_sightOf (f := tset (zT z) j (min (zT z j) (qLeast (zP z) j))) atC5_30 h4.pl sC_73 (by decide) h25 rows b4 hv (by omega) ?_
      refine k_sightOf atC5_30 h4.pl sC_39 (by decide) h25 (fun c hc => h4.tw c (by omega)) h4.t9 hv (by omega) ?_
      have q1 := qG_le (w := qw (zP z)) (h := qh (zP z)) (side := qSide (zP z) v) (s := qF (qw (zP z)) (qh (zP z)) (qSide (zP z) v) j) b4 (qc (zP z))
      have q2 := qG_le (w := qw (zP z)) (h := qh (zP z)) (side := qSide (zP z) v) (s := qF (qw (zP z)) (qh (zP z)) (qSide (zP z) v) j) t9 (qc (zP z))
      rw [nI_eq (by omega) (by omega)]
      simp only [nI_1]
      refine ⟨fun w => ih _ ?_, fun w => ih _ ?_⟩
      · show _ = nI (qDn (zP z) (zT z) j v + (if _ then 0 else 1))
        rw [if_pos (show qG _ _ _ (qFv (zP z) v j) _ _ = qG _ _ _ (qFv (zP z) v j) _ _ from w)]; rfl
      · show _ = nI (qDn (zP z) (zT z) j v + (if _ then 0 else 1))
        rw [if_neg (show ¬ qG _ _ _ (qFv (zP z) v j) _ _ = qG _ _ _ (qFv (zP z) v j) _ _ from w)]
  · rw [c] at hP; exact c_refused h hP
end MKS
