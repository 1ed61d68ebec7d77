/-! the model's reader -/
theorem ub_all : ∀ i : Nat, i < 256 → (Int32.ofInt ((i : Int) - 128) &&& (255 : Int32)).toInt = if (i : Int) - 128 < 0 then (i : Int) - 128 + 256 else (i : Int) - 128 := by decide +kernel
theorem ub_int {v : Int32} (h1 : -128 ≤ v.toInt) (h2 : v.toInt < 128) : (v &&& (255 : Int32)).toInt = if v.toInt < 0 then v.toInt + 256 else v.toInt := by
  have := ub_all (v.toInt + 128).toNat (by omega)
  have e : (((v.toInt + 128).toNat : Nat) : Int) - 128 = v.toInt := by omega
  rw [e, Int32.ofInt_toInt] at this
  exact this
theorem ub_eq {v k : Int32} (h1 : -128 ≤ v.toInt) (h2 : v.toInt < 128) (k0 : 0 ≤ k.toInt) (k1 : k.toInt < 128) : v &&& (255 : Int32) = k ↔ v = k := by
  rw [← Int32.toInt_inj, ub_int h1 h2, ← Int32.toInt_inj]
  split <;> omega
theorem ub_same {v : Int32} (h1 : 0 ≤ v.toInt) (h2 : v.toInt < 128) : v &&& (255 : Int32) = v := by
  rw [← Int32.toInt_inj, ub_int (by omega) h2, if_neg (by omega)]
def mkK (k : Nat) : Nat := if k = 0 then 0 else if k = 1 then 4 else k - 1
def mTx (M : jM) (f : Nat → Int32) (n : Nat) : Prop := n ≤ 900 ∧ (∀ k, k < n → M.1 4 k = f k) ∧ (∀ k, -128 ≤ (f k).toInt ∧ (f k).toInt < 128) ∧ M.1 0 9 = nI n
def mRd (M : jM) (f : Nat → Int32) (n a : Nat) : Prop := M.1 0 16 = nI (yX f n a) ∧ M.1 0 15 = nI (yP f n a) ∧ M.1 0 14 = nI (mkK (yK f n a)) ∧ (yK f n a = 3 → M.1 0 17 = nI (yN f n a)) ∧ (yK f n a = 4 → M.1 0 17 = yG f n a) ∧ (yK f n a = 2 → M.2 0 22 = (if yLt f n a ≤ 8 then lN (yV f n a) else -1) ∧ M.1 0 18 = nI (yLt f n a))
/-- what the model's next leaves -/
def mKp (M M' : jM) : Prop := jsame (fun r => r = 0) M M' ∧ (∀ k, (k < 14 ∨ 18 < k) → M'.1 0 k = M.1 0 k) ∧ ∀ k, k ≠ 22 → M'.2 0 k = M.2 0 k
theorem mKp.rf {M : jM} : mKp M M := ⟨jsame.rf, fun _ _ => rfl, fun _ _ => rfl⟩
theorem mKp.tr {M M' M'' : jM} (h : mKp M M') (h2 : mKp M' M'') : mKp M M'' := ⟨h.1.tr h2.1, fun k hk => (h2.2.1 k hk).trans (h.2.1 k hk), fun k hk => (h2.2.2 k hk).trans (h.2.2 k hk)⟩
theorem mKp.I {M : jM} {k : Nat} {v : Int32} (h1 : 14 ≤ k) (h2 : k ≤ 18) : mKp M (jrI M 0 (upd (M.1 0) k v)) := ⟨jsame.I rfl, fun j hj => by rw [jrI_s, pk_un (by omega)], fun _ _ => rfl⟩
theorem mKp.L {M : jM} {v : Int64} : mKp M (jrL M 0 (vp_updL (M.2 0) 22 v)) := ⟨jsame.L rfl, fun _ _ => rfl, fun j hj => by rw [jrL_s, pk_uLn hj]⟩
theorem mTx.keep {M M' : jM} {f : Nat → Int32} {n : Nat} (h : mTx M f n) (k : mKp M M') : mTx M' f n := by
  obtain ⟨h1, h2, h3, h4⟩ := h
  exact ⟨h1, fun j hj => by rw [(k.1 4 (by omega)).1]; exact h2 j hj, h3, by rw [k.2.1 9 (by omega)]; exact h4⟩
section MTK
variable {x : jX} {d : Nat} {M : jM} {f : Nat → Int32} {n a : Nat}
theorem m_look {P : jM → Int32 → Prop} {q : Nat} (ht : mTx M f n) (hq : q < 2 ^ 30) (h : P M (if q < n then f q &&& (255 : Int32) else 0)) : JC x jtbM mX12_look2 d [.ref (x.2.2.2 0), .int (nI q)] M (jI P) := by
  obtain ⟨n9, tx, _, e9⟩ := ht
  refine b_X12_look2 ?_
  rw [e9]
  refine pk_le n q (fun c => ?_) (fun c => ⟨q, by omega, rfl, ?_⟩)
  · rw [if_neg (by omega)] at h; exact h
  · rw [if_pos c] at h; rw [tx q c]; exact h
theorem m_isLetter {P : jM → Bool → Prop} {q : Nat} (ht : mTx M f n) (h : P M (decide (q < n) && yL (f q))) : JC x jtbM mX12_isLetter d [.int (if q < n then f q &&& (255 : Int32) else 0)] M (jZ P) := by
  have e97 : (97 : Int32).toInt = 97 := by decide
  have e122 : (122 : Int32).toInt = 122 := by decide
  have z : (0 : Int32).toInt = 0 := by decide
  refine b_X12_isLetter ?_
  rw [Int32.lt_iff_toInt_lt, Int32.lt_iff_toInt_lt, e97, e122]
  obtain ⟨b1, b2⟩ := ht.2.2.1 q
  by_cases c : q < n
  · rw [decide_eq_true c, Bool.true_and] at h
    rw [if_pos c, ub_int b1 b2]
    refine ⟨fun u => ?_, fun u => ⟨fun v => ?_, fun v => ?_⟩⟩
    · rw [show yL (f q) = false from decide_eq_false (by split at u <;> omega)] at h; exact h
    · rw [show yL (f q) = false from decide_eq_false (by split at v <;> omega)] at h; exact h
    · rw [show yL (f q) = true from decide_eq_true (by split at u <;> split at v <;> omega)] at h; exact h
  · rw [decide_eq_false c] at h
    rw [if_neg c, z]
    exact ⟨fun _ => h, fun u => absurd (by decide) u⟩
theorem m_isDigit {P : jM → Bool → Prop} {q : Nat} (ht : mTx M f n) (h : P M (decide (q < n) && yD (f q))) : JC x jtbM mX12_isDigit d [.int (if q < n then f q &&& (255 : Int32) else 0)] M (jZ P) := by
  have e97 : (48 : Int32).toInt = 48 := by decide
  have e122 : (57 : Int32).toInt = 57 := by decide
  have z : (0 : Int32).toInt = 0 := by decide
  refine b_X12_isDigit ?_
  rw [Int32.lt_iff_toInt_lt, Int32.lt_iff_toInt_lt, e97, e122]
  obtain ⟨b1, b2⟩ := ht.2.2.1 q
  by_cases c : q < n
  · rw [decide_eq_true c, Bool.true_and] at h
    rw [if_pos c, ub_int b1 b2]
    refine ⟨fun u => ?_, fun u => ⟨fun v => ?_, fun v => ?_⟩⟩
    · rw [show yD (f q) = false from decide_eq_false (by split at u <;> omega)] at h; exact h
    · rw [show yD (f q) = false from decide_eq_false (by split at v <;> omega)] at h; exact h
    · rw [show yD (f q) = true from decide_eq_true (by split at u <;> split at v <;> omega)] at h; exact h
  · rw [decide_eq_false c] at h
    rw [if_neg c, z]
    exact ⟨fun _ => h, fun u => absurd (by decide) u⟩
theorem run_at {p : Int32 → Bool} {q i : Nat} (hq : q ≤ n) (hi : i ≤ yRun p f n q) : (decide (q + i < n) && p (f (q + i))) = decide (i < yRun p f n q) := by
  have le := yRun_le p f n q
  rcases Nat.lt_or_ge i (yRun p f n q) with u | u
  · rw [decide_eq_true (show q + i < n by omega), yRun_in u, decide_eq_true u]; rfl
  · have e : i = yRun p f n q := by omega
    rw [decide_eq_false (show ¬ i < yRun p f n q by omega)]
    by_cases c : q + i < n
    · have := yRun_end (p := p) (f := f) (n := n) (a := q) (by omega)
      rw [← e] at this
      rw [this, Bool.and_false]
    · rw [decide_eq_false c]; rfl
theorem m_next {P : jM → Prop} (ht : mTx M f n) (h16 : M.1 0 16 = nI a) (ha : a ≤ n) (h : ∀ M', mKp M M' → mRd M' f n a → P M') : JC x jtbM mX12_next (d + 1) [.ref (x.2.2.2 0)] M (jV P) := by
  obtain ⟨n9, tx, rng, e9⟩ := id ht
  have Rle : yRun yB f n a ≤ n - a := yRun_le _ _ _ _
  have Ple := yP_le (f := f) ha
  refine b_X12_next ?_
  intro M1 e1
  -- behind the blanks
  have rest : ∀ M2, mKp M M2 → M2.1 0 15 = nI (yP f n a) → JW x jtbM mX12_next (d + 1) (jV P) 58 [(0, .ref (x.2.2.2 0))] [] M2 := fun M2 g1 g2 => by
    refine b_X12_next_58 ?_
    intro M3 e3
    have k3 : mKp M M3 := by rw [e3]; exact g1.tr (mKp.I (by omega) (by omega))
    have t3 := ht.keep k3
    have x15 : M3.1 0 15 = nI (yP f n a) := by rw [e3, jrI_s, pk_un (by omega)]; exact g2
    have x16 : M3.1 0 16 = nI (yP f n a) := by rw [e3, jrI_s, pk_us]; exact g2
    rw [x15, t3.2.2.2]
    refine pk_lt (yP f n a) n (fun lt => m_look t3 (by omega) (m_isLetter t3 ?_)) (fun ge => ?_)
    · have no0 : ¬ n ≤ yP f n a := by omega
      rw [decide_eq_true lt, Bool.true_and]
      refine ⟨fun nl => m_isDigit t3 ?_, fun yl => ?_⟩
      · have nl' : ¬ yL (f (yP f n a)) = true := by rw [nl]; decide
        rw [decide_eq_true lt, Bool.true_and, if_pos lt]
        refine ⟨fun nd => ?_, fun yd => ?_⟩
        · have nd' : ¬ yD (f (yP f n a)) = true := by rw [nd]; decide
          have eK : yK f n a = if yS (f (yP f n a)) then 4 else 1 := by unfold yK; rw [if_neg no0, if_neg nl', if_neg nd']
          have eX : yX f n a = yP f n a + 1 := by unfold yX; rw [if_neg no0, if_neg nl', if_neg nd']
          obtain ⟨b1, b2⟩ := rng (yP f n a)
          intro M5 e5 M6 e6
          have k6 : mKp M M6 := by rw [e6, e5]; exact (k3.tr (mKp.I (by omega) (by omega))).tr (mKp.I (by omega) (by omega))
          have y16 : M6.1 0 16 = nI (yP f n a + 1) := by rw [e6, jrI_s, pk_un (by omega), e5, jrI_s, pk_us, x15, nI_1]
          have y15 : M6.1 0 15 = nI (yP f n a) := by rw [e6, jrI_s, pk_un (by omega), e5, jrI_s, pk_un (by omega)]; exact x15
          have y17 : M6.1 0 17 = f (yP f n a) &&& (255 : Int32) := by rw [e6, jrI_s, pk_us]
          have fin : ∀ s : Bool, yS (f (yP f n a)) = s → ∀ M7, M7 = jrI M6 0 (upd (M6.1 0) 14 (if s then 3 else 4)) → P M7 := fun s hs M7 e7 => by
            have k7 : mKp M M7 := by rw [e7]; exact k6.tr (mKp.I (by omega) (by omega))
            refine h M7 k7 ⟨by rw [e7, jrI_s, pk_un (by omega), eX]; exact y16, by rw [e7, jrI_s, pk_un (by omega)]; exact y15, ?_, fun u => ?_, fun u => ?_, fun u => ?_⟩
            · rw [e7, jrI_s, pk_us, eK, hs]; cases s <;> rfl
            · rw [eK] at u; revert u; split <;> intro u <;> omega
            · rw [e7, jrI_s, pk_un (by omega), y17]
              have st : yS (f (yP f n a)) = true := by
                rw [eK] at u
                revert u; split
                · intro _; assumption
                · intro u; omega
              have := of_decide_eq_true st
              unfold yG
              refine ub_same ?_ b2
              rcases this with q | q | q | q <;> rw [q] <;> decide
            · rw [eK] at u; revert u; split <;> intro u <;> omega
          refine b_X12_isSignByte ?_
          have cmp : ∀ k : Int32, 0 ≤ k.toInt → k.toInt < 128 → (f (yP f n a) &&& (255 : Int32) = k ↔ f (yP f n a) = k) := fun k k0 k1 => ub_eq b1 b2 k0 k1
          rw [cmp 59 (by decide) (by decide), cmp 60 (by decide) (by decide), cmp 62 (by decide) (by decide), cmp 61 (by decide) (by decide)]
          have yes : yS (f (yP f n a)) = true → ((true = false → ∀ M8, M8 = jrI M6 0 (upd (M6.1 0) 14 (4 : Int32)) → P M8) ∧ (true = true → ∀ M9, M9 = jrI M6 0 (upd (M6.1 0) 14 (3 : Int32)) → P M9)) := fun s => ⟨fun u => (by cases u), fun _ M9 e => fin true s M9 e⟩
          have nos : yS (f (yP f n a)) = false → ((false = false → ∀ M8, M8 = jrI M6 0 (upd (M6.1 0) 14 (4 : Int32)) → P M8) ∧ (false = true → ∀ M9, M9 = jrI M6 0 (upd (M6.1 0) 14 (3 : Int32)) → P M9)) := fun s => ⟨fun _ M9 e => fin false s M9 e, fun u => (by cases u)⟩
          refine ⟨fun c => yes (decide_eq_true (Or.inl c)), fun c => ⟨fun c2 => yes (decide_eq_true (Or.inr (Or.inl c2))), fun c2 => ⟨fun c3 => yes (decide_eq_true (Or.inr (Or.inr (Or.inr c3)))), fun c3 => ⟨fun c4 => nos (decide_eq_false (fun u => ?_)), fun c4 => yes (decide_eq_true (Or.inr (Or.inr (Or.inl c4))))⟩⟩⟩⟩
          rcases u with u | u | u | u
          · exact c u
          · exact c2 u
          · exact c4 u
          · exact c3 u
        · intro M5 e5
          have eK : yK f n a = if yDt f n a ≤ 4 then 3 else 1 := by unfold yK; rw [if_neg no0, if_neg nl', if_pos yd]
          have eX : yX f n a = yP f n a + yDt f n a := by unfold yX; rw [if_neg no0, if_neg nl', if_pos yd]
          have dle : yDt f n a ≤ n - yP f n a := yRun_le _ _ _ _
          have rD : ∀ i, i ≤ yDt f n a → (decide (yP f n a + i < n) && yD (f (yP f n a + i))) = decide (i < yDt f n a) := fun i hi => run_at Ple hi
          refine jloop (fun i (M6 : jM) => JW x jtbM mX12_next (d + 1) (jV P) 210 [(0, .ref (x.2.2.2 0))] [] M6) (fun i M6 => mKp M M6 ∧ M6.1 0 16 = nI (yP f n a + i) ∧ M6.1 0 15 = nI (yP f n a) ∧ M6.1 0 17 = nI (yDv f (yP f n a) (min i 4))) (yDt f n a) ?_ ?_ 0 M5 (Nat.zero_le _) ⟨by rw [e5]; exact k3.tr (mKp.I (by omega) (by omega)), by rw [e5, jrI_s, pk_un (by omega)]; exact x16, by rw [e5, jrI_s, pk_un (by omega)]; exact x15, by rw [e5, jrI_s, pk_us]; rfl⟩
          · rintro M6 ⟨t1, t2, t3', t4⟩
            have tx6 := ht.keep t1
            refine b_X12_next_210 ?_
            rw [t2]
            refine m_look tx6 (by omega) (m_isDigit tx6 ?_)
            rw [rD _ (Nat.le_refl _), decide_eq_false (Nat.lt_irrefl _), t2, t3', pk_sub (by omega), show yP f n a + yDt f n a - yP f n a = yDt f n a by omega]
            refine ⟨fun _ => pk_le (yDt f n a) 4 (fun le M7 e7 => ?_) (fun gt M7 e7 => ?_), fun u => (by cases u)⟩
            · refine h M7 (by rw [e7]; exact t1.tr (mKp.I (by omega) (by omega))) ⟨by rw [e7, jrI_s, pk_un (by omega), eX]; exact t2, by rw [e7, jrI_s, pk_un (by omega)]; exact t3', by rw [e7, jrI_s, pk_us, eK, if_pos le]; rfl, fun _ => ?_, fun u => ?_, fun u => ?_⟩
              · rw [e7, jrI_s, pk_un (by omega), t4, Nat.min_eq_left le]; rfl
              · rw [eK, if_pos le] at u; omega
              · rw [eK, if_pos le] at u; omega
            · refine h M7 (by rw [e7]; exact t1.tr (mKp.I (by omega) (by omega))) ⟨by rw [e7, jrI_s, pk_un (by omega), eX]; exact t2, by rw [e7, jrI_s, pk_un (by omega)]; exact t3', by rw [e7, jrI_s, pk_us, eK, if_neg (by omega)]; rfl, fun u => ?_, fun u => ?_, fun u => ?_⟩
              · rw [eK, if_neg (by omega)] at u; omega
              · rw [eK, if_neg (by omega)] at u; omega
              · rw [eK, if_neg (by omega)] at u; omega
          · rintro i M6 hi ⟨t1, t2, t3', t4⟩ ih
            have tx6 := ht.keep t1
            have il : yP f n a + i < n := by omega
            obtain ⟨c, c1, c2, c3⟩ := yD_code (yRun_in (p := yD) (f := f) (n := n) (a := yP f n a) hi)
            refine b_X12_next_210 ?_
            rw [t2]
            refine m_look tx6 (by omega) (m_isDigit tx6 ?_)
            rw [rD _ (Nat.le_of_lt hi), decide_eq_true hi, t2, t3', pk_sub (by omega), show yP f n a + i - yP f n a = i by omega]
            refine ⟨fun u => (by cases u), fun _ => pk_le 4 i (fun le M7 e7 => ?_) (fun gt => m_look tx6 (by omega) (fun M7 e7 M8 e8 => ?_))⟩
            · refine ih M7 ⟨by rw [e7]; exact t1.tr (mKp.I (by omega) (by omega)), by rw [e7, jrI_s, pk_us, nI_1]; rfl, by rw [e7, jrI_s, pk_un (by omega)]; exact t3', ?_⟩
              rw [e7, jrI_s, pk_un (by omega), t4, Nat.min_eq_right le, Nat.min_eq_right (by omega)]
            · rw [if_pos il, c3, ub_same (by rw [nI_toInt (by omega)]; omega) (by rw [nI_toInt (by omega)]; omega), t4, Nat.min_eq_left (by omega)] at e7
              refine ih M8 ⟨by rw [e8, e7]; exact (t1.tr (mKp.I (by omega) (by omega))).tr (mKp.I (by omega) (by omega)), ?_, ?_, ?_⟩
              · rw [e8, jrI_s, pk_us, e7, jrI_s, pk_un (by omega), t2, nI_1]; rfl
              · rw [e8, jrI_s, pk_un (by omega), e7, jrI_s, pk_un (by omega)]; exact t3'
              · rw [e8, jrI_s, pk_un (by omega), e7, jrI_s, pk_us, show (10 : Int32) = nI 10 from rfl, show (48 : Int32) = nI 48 from rfl, pk_mul, nI_add, pk_sub (by omega), Nat.min_eq_left (by omega), yDv, c2]
                congr 1; omega
      · intro M5 e5 M6 e6
        have eK : yK f n a = 2 := by unfold yK; rw [if_neg no0, if_pos yl]
        have eX : yX f n a = yP f n a + yLt f n a := by unfold yX; rw [if_neg no0, if_pos yl]
        have lle : yLt f n a ≤ n - yP f n a := yRun_le _ _ _ _
        have rL : ∀ i, i ≤ yLt f n a → (decide (yP f n a + i < n) && yL (f (yP f n a + i))) = decide (i < yLt f n a) := fun i hi => run_at Ple hi
        refine jloop (fun i (M7 : jM) => JW x jtbM mX12_next (d + 1) (jV P) 109 [(0, .ref (x.2.2.2 0))] [] M7) (fun i M7 => mKp M M7 ∧ M7.1 0 16 = nI (yP f n a + i) ∧ M7.1 0 15 = nI (yP f n a) ∧ M7.1 0 14 = 1 ∧ M7.2 0 22 = if i ≤ 8 then lN (yWv f (yP f n a) i) else -1) (yLt f n a) ?_ ?_ 0 M6 (Nat.zero_le _) ⟨by rw [e6, e5]; exact (k3.tr (mKp.I (by omega) (by omega))).tr mKp.L, ?_, ?_, ?_, ?_⟩
        · rintro M7 ⟨t1, t2, t3', t4, t5⟩
          have tx7 := ht.keep t1
          refine b_X12_next_109 ?_
          rw [t2]
          refine m_look tx7 (by omega) (m_isLetter tx7 ?_)
          rw [rL _ (Nat.le_refl _), decide_eq_false (Nat.lt_irrefl _)]
          refine ⟨fun _ M8 e8 => ?_, fun u => (by cases u)⟩
          rw [t2, t3', pk_sub (by omega), show yP f n a + yLt f n a - yP f n a = yLt f n a by omega] at e8
          refine h M8 (by rw [e8]; exact t1.tr (mKp.I (by omega) (by omega))) ⟨by rw [e8, jrI_s, pk_un (by omega), eX]; exact t2, by rw [e8, jrI_s, pk_un (by omega)]; exact t3', by rw [e8, jrI_s, pk_un (by omega), eK]; exact t4, fun u => (by rw [eK] at u; omega), fun u => (by rw [eK] at u; omega), fun _ => ⟨by rw [e8]; exact t5, by rw [e8, jrI_s, pk_us]⟩⟩
        · rintro i M7 hi ⟨t1, t2, t3', t4, t5⟩ ih
          have tx7 := ht.keep t1
          have il : yP f n a + i < n := by omega
          obtain ⟨c, c0, c1, c2, c3⟩ := yL_code (yRun_in (p := yL) (f := f) (n := n) (a := yP f n a) hi)
          refine b_X12_next_109 ?_
          rw [t2]
          refine m_look tx7 (by omega) (m_isLetter tx7 ?_)
          rw [rL _ (Nat.le_of_lt hi), decide_eq_true hi, t2, t3', pk_sub (by omega), show yP f n a + i - yP f n a = i by omega]
          refine ⟨fun u => (by cases u), fun _ => pk_le 8 i (fun le M8 e8 M9 e9 => ?_) (fun gt => m_look tx7 (by omega) (fun M8 e8 M9 e9 => ?_))⟩
          · refine ih M9 ⟨by rw [e9, e8]; exact (t1.tr mKp.L).tr (mKp.I (by omega) (by omega)), ?_, ?_, ?_, ?_⟩
            · rw [e9, jrI_s, pk_us, e8]
              show M7.1 0 16 + 1 = _
              rw [t2, nI_1]; rfl
            · rw [e9, jrI_s, pk_un (by omega), e8]; exact t3'
            · rw [e9, jrI_s, pk_un (by omega), e8]; exact t4
            · rw [e9]
              show M8.2 0 22 = _
              rw [e8, jrL_s, pk_uLs, if_neg (by omega)]
          · rw [if_pos il, c3, ub_same (by rw [nI_toInt (by omega)]; omega) (by rw [nI_toInt (by omega)]; omega), t5, if_pos (by omega)] at e8
            refine ih M9 ⟨by rw [e9, e8]; exact (t1.tr mKp.L).tr (mKp.I (by omega) (by omega)), ?_, ?_, ?_, ?_⟩
            · rw [e9, jrI_s, pk_us, e8]
              show M7.1 0 16 + 1 = _
              rw [t2, nI_1]; rfl
            · rw [e9, jrI_s, pk_un (by omega), e8]; exact t3'
            · rw [e9, jrI_s, pk_un (by omega), e8]; exact t4
            · rw [e9]
              show M8.2 0 22 = _
              rw [e8, jrL_s, pk_uLs, if_pos (by omega), nI_l (by omega), show (32 : Int64) = lN 32 from rfl, show (96 : Int64) = lN 96 from rfl, lN_mul, lN_add, lN_sub (by omega), yWv, c2]
              congr 1; omega
        · rw [e6]
          show M5.1 0 16 = _
          rw [e5, jrI_s, pk_un (by omega)]; exact x16
        · rw [e6]
          show M5.1 0 15 = _
          rw [e5, jrI_s, pk_un (by omega)]; exact x15
        · rw [e6]
          show M5.1 0 14 = _
          rw [e5, jrI_s, pk_us]
        · rw [e6, jrL_s, pk_uLs]; rfl
    · intro M4 e4
      have eK : yK f n a = 0 := by unfold yK; rw [if_pos ge]
      have eX : yX f n a = yP f n a := by unfold yX; rw [if_pos ge]
      refine h M4 (by rw [e4]; exact k3.tr (mKp.I (by omega) (by omega))) ⟨by rw [e4, jrI_s, pk_un (by omega), eX]; exact x16, by rw [e4, jrI_s, pk_un (by omega)]; exact x15, by rw [e4, jrI_s, pk_us, eK]; rfl, fun u => (by rw [eK] at u; omega), fun u => (by rw [eK] at u; omega), fun u => (by rw [eK] at u; omega)⟩
  refine jloop (fun i (M2 : jM) => JW x jtbM mX12_next (d + 1) (jV P) 8 [(0, .ref (x.2.2.2 0))] [] M2) (fun i M2 => mKp M M2 ∧ M2.1 0 15 = nI (a + i)) (yRun yB f n a) ?_ ?_ 0 M1 (Nat.zero_le _) ⟨by rw [e1]; exact mKp.I (by omega) (by omega), by rw [e1, jrI_s, pk_us]; exact h16⟩
  · rintro M2 ⟨g1, g2⟩
    have t2 := ht.keep g1
    refine b_X12_next_8 ?_
    rw [t2.2.2.2, g2]
    refine pk_le n (a + yRun yB f n a) (fun _ => rest M2 g1 g2) (fun lt => m_look t2 (by omega) ?_)
    have nb := of_decide_eq_false (yRun_end (p := yB) (f := f) (n := n) (a := a) (by omega))
    obtain ⟨b1, b2⟩ := rng (a + yRun yB f n a)
    rw [if_pos lt, ub_eq b1 b2 (by decide) (by decide)]
    refine ⟨fun c => absurd (Or.inl c) nb, fun _ => ?_⟩
    rw [g2]
    refine m_look t2 (by omega) ?_
    rw [if_pos lt, ub_eq b1 b2 (by decide) (by decide)]
    exact ⟨fun _ => rest M2 g1 g2, fun c => absurd (Or.inr c) nb⟩
  · rintro i M2 hi ⟨g1, g2⟩ ih
    have t2 := ht.keep g1
    have yb := of_decide_eq_true (yRun_in (p := yB) hi)
    obtain ⟨b1, b2⟩ := rng (a + i)
    have go : ∀ M3, M3 = jrI M2 0 (upd (M2.1 0) 15 (M2.1 0 15 + 1)) → JW x jtbM mX12_next (d + 1) (jV P) 8 [(0, .ref (x.2.2.2 0))] [] M3 := fun M3 e3 => by
      refine ih M3 ⟨by rw [e3]; exact g1.tr (mKp.I (by omega) (by omega)), ?_⟩
      rw [e3, jrI_s, pk_us, g2, nI_1]; rfl
    rw [g2] at go
    refine b_X12_next_8 ?_
    rw [t2.2.2.2, g2]
    refine pk_le n (a + i) (fun c => absurd c (by omega)) (fun lt => m_look t2 (by omega) ?_)
    rw [if_pos lt, ub_eq b1 b2 (by decide) (by decide), g2]
    refine ⟨fun _ => go, fun nc => m_look t2 (by omega) ?_⟩
    rw [if_pos lt, ub_eq b1 b2 (by decide) (by decide), g2]
    exact ⟨fun c => absurd (yb.resolve_left nc) c, fun _ => go⟩
end MTK
