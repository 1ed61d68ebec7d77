/-! the class's reader steps on, and takes -/
section YST
variable {x : jX} {d : Nat} {M : jM} {p : Nat} {f : Nat → Int32} {n a : Nat}
/-- rows that a reader's step leaves -/
def rKp (p : Nat) (M M' : jM) : Prop := jsame (fun r => r = p) M M' ∧ ∀ k, (k = 5 ∨ k = 6 ∨ k = 7) → M'.1 p k = M.1 p k
theorem rKp.rf : rKp p M M := ⟨jsame.rf, fun _ _ => rfl⟩
theorem rKp.tr {M' M'' : jM} (h : rKp p M M') (h2 : rKp p M' M'') : rKp p M M'' := ⟨h.1.tr h2.1, fun k hk => (h2.2 k hk).trans (h.2 k hk)⟩
theorem cTx.keep {M' : jM} (h : cTx M p f n) (hs : jsame (fun r => r = p) M M') : cTx M' p f n := by
  obtain ⟨h1, h2, h3, h4⟩ := h
  exact ⟨h1, fun k hk => by rw [(hs 2 (by omega)).1]; exact h2 k hk, fun k hk => by rw [(hs (p + 1) (by omega)).2]; exact h3 k hk, h4⟩
theorem k_step {P : jM → Prop} (ht : cTx M p f n) (h9 : M.1 p 9 = nI 2) (h10 : M.1 p 10 = nI n) (h11 : M.1 p 11 = nI a) (ha : a ≤ n) (h : ∀ M', rKp p M M' → cRd M' p f n a → P M') : JC x jtbC mX7_step (d + 1) [.ref (x.2.2.2 p)] M (jV P) := by
  obtain ⟨n9, tx, wd, pp⟩ := id ht
  have a0 := aX7_at pp
  have np : (2 : Nat) ≠ p := by omega
  refine JC.of rfl (Nat.le_of_ble_eq_true rfl) ?_
  refine jw_ls (ls' := [(0, .ref (x.2.2.2 p))]) rfl ?_
  have Rle : yRun yB f n a ≤ n - a := yRun_le _ _ _ _
  have Ple := yP_le (f := f) ha
  -- behind the blanks
  have rest : ∀ M1, jsame (fun r => r = p) M M1 → M1.2 = M.2 → (∀ k, k ≠ 11 → M1.1 p k = M.1 p k) → M1.1 p 11 = nI (yP f n a) → JW x jtbC mX7_step (d + 1) (jV P) 52 [(0, .ref (x.2.2.2 p))] [] M1 := fun M1 g1 g2 g3 g4 => by
    refine b_X7_step_52 a0 ?_
    intro M2 e2 M3 e3
    have s3 : jsame (fun r => r = p) M M3 := by rw [e3, e2]; exact (g1.tr (jsame.I rfl)).tr (jsame.I rfl)
    have t3 : cTx M3 p f n := ht.keep s3
    have v3 : M3.2 = M.2 := by rw [e3, e2]; exact g2
    have k3 : ∀ k, k ≠ 3 → k ≠ 11 → k ≠ 12 → M3.1 p k = M.1 p k := fun k k3 k11 k12 => by rw [e3, jrI_s, pk_un k3, e2, jrI_s, pk_un k12]; exact g3 k k11
    have x11 : M3.1 p 11 = nI (yP f n a) := by rw [e3, jrI_s, pk_un (by omega), e2, jrI_s, pk_un (by omega)]; exact g4
    have x12 : M3.1 p 12 = nI (yP f n a) := by rw [e3, jrI_s, pk_un (by omega), e2, jrI_s, pk_us]; exact g4
    have x3 : M3.1 p 3 = -1 := by rw [e3, jrI_s, pk_us]
    have x10 : M3.1 p 10 = nI n := by rw [k3 10 (by omega) (by omega) (by omega)]; exact h10
    have x9 : M3.1 p 9 = nI 2 := by rw [k3 9 (by omega) (by omega) (by omega)]; exact h9
    have tx3 : ∀ k, k < n → M3.1 2 k = f k := t3.2.1
    rw [x11, x10]
    refine pk_lt (yP f n a) n (fun lt => ⟨2, x9, by omega, sC_2, yP f n a, by omega, rfl, ?_⟩) (fun ge => ?_)
    · rw [tx3 _ lt]
      -- a letter, or not
      have no0 : ¬ n ≤ yP f n a := by omega
      have notL : yL (f (yP f n a)) = false → JW x jtbC mX7_step (d + 1) (jV P) 119 [(0, .ref (x.2.2.2 p))] [] M3 := fun nl => by
        have nl' : ¬ yL (f (yP f n a)) = true := by rw [nl]; decide
        have sign : yD (f (yP f n a)) = false → JC x jtbC mX7_readSign d [.ref (x.2.2.2 p)] M3 (jV fun M4 => P M4) := fun nd => by
          have nd' : ¬ yD (f (yP f n a)) = true := by rw [nd]; decide
          refine k_readSign t3 x9 x11 lt (fun M4 q1 q2 q3 q4 q5 q6 => h M4 ⟨s3.tr q1, fun k hk => by rw [q3 k (by omega) (by omega) (by omega)]; exact k3 k (by omega) (by omega) (by omega)⟩ ?_)
          have eK : yK f n a = if yS (f (yP f n a)) then 4 else 1 := by unfold yK; rw [if_neg no0, if_neg nl', if_neg nd']
          have eX : yX f n a = yP f n a + 1 := by unfold yX; rw [if_neg no0, if_neg nl', if_neg nd']
          have eI : yI f n a = 26 := by
            unfold yI
            rw [if_neg]
            rintro ⟨u, _⟩
            rw [eK] at u
            revert u; split <;> intro u <;> omega
          refine ⟨by rw [q3 9 (by omega) (by omega) (by omega)]; exact x9, by rw [q3 10 (by omega) (by omega) (by omega)]; exact x10, by rw [q5, eX], by rw [q3 12 (by omega) (by omega) (by omega)]; exact x12, ?_, by rw [q3 3 (by omega) (by omega) (by omega), x3, eI]; rfl, fun u => ?_, fun _ => q6, fun u => ?_⟩
          · rw [q4, eK]; split <;> rfl
          · rw [eK] at u; revert u; split <;> intro u <;> omega
          · rw [eK] at u; revert u; split <;> intro u <;> omega
        have digit : yD (f (yP f n a)) = true → JC x jtbC mX7_readDigits d [.ref (x.2.2.2 p)] M3 (jV fun M4 => P M4) := fun yd => by
          refine k_readDigits t3 x9 x10 x11 Ple (fun M4 q1 q2 q3 q4 q5 q6 => h M4 ⟨s3.tr q1, fun k hk => by rw [q3 k (by omega) (by omega) (by omega)]; exact k3 k (by omega) (by omega) (by omega)⟩ ?_)
          have eK : yK f n a = if yDt f n a ≤ 4 then 3 else 1 := by unfold yK; rw [if_neg no0, if_neg nl', if_pos yd]
          have eX : yX f n a = yP f n a + yDt f n a := by unfold yX; rw [if_neg no0, if_neg nl', if_pos yd]
          have eI : yI f n a = 26 := by
            unfold yI
            rw [if_neg]
            rintro ⟨u, _⟩
            rw [eK] at u
            revert u; split <;> intro u <;> omega
          refine ⟨by rw [q3 9 (by omega) (by omega) (by omega)]; exact x9, by rw [q3 10 (by omega) (by omega) (by omega)]; exact x10, by rw [q5, eX]; rfl, by rw [q3 12 (by omega) (by omega) (by omega)]; exact x12, ?_, by rw [q3 3 (by omega) (by omega) (by omega), x3, eI]; rfl, fun _ => q6, fun u => ?_, fun u => ?_⟩
          · rw [q4, eK]
            show (if yDt f n a ≤ 4 then (3 : Int32) else 1) = nI (if yDt f n a ≤ 4 then 3 else 1)
            split <;> rfl
          · rw [eK] at u; revert u; split <;> intro u <;> omega
          · rw [eK] at u; revert u; split <;> intro u <;> omega
        refine b_X7_step_119 a0 ⟨2, x9, by omega, sC_2, yP f n a, by omega, x11, ?_⟩
        rw [tx3 _ lt]
        have br := yD_br (v := f (yP f n a)) (A := JC x jtbC mX7_readSign d [.ref (x.2.2.2 p)] M3 (jV fun M4 => P M4)) (B := JC x jtbC mX7_readDigits d [.ref (x.2.2.2 p)] M3 (jV fun M4 => P M4)) sign digit
        refine ⟨br.1, fun c => ⟨2, x9, by omega, sC_2, ?_⟩⟩
        rw [tx3 _ lt]
        exact br.2 c
      have word : yL (f (yP f n a)) = true → JC x jtbC mX7_readWord d [.ref (x.2.2.2 p)] M3 (jV fun M4 => P M4) := fun yl => by
        refine k_readWord t3 x9 x10 x11 Ple x3 (fun M4 q1 q3 q0 q4 q5 q6 q7 => h M4 ⟨s3.tr q1, fun k hk => by rw [q3 k (by omega) (by omega) (by omega) (by omega)]; exact k3 k (by omega) (by omega) (by omega)⟩ ?_)
        have eK : yK f n a = 2 := by unfold yK; rw [if_neg no0, if_pos yl]
        have eX : yX f n a = yP f n a + yLt f n a := by unfold yX; rw [if_neg no0, if_pos yl]
        have eI : yI f n a = if yLt f n a ≤ 8 then yWi (yV f n a) else 26 := by
          unfold yI
          by_cases l8 : yLt f n a ≤ 8
          · rw [if_pos ⟨eK, l8⟩, if_pos l8]
          · rw [if_neg (fun u => l8 u.2), if_neg l8]
        refine ⟨by rw [q3 9 (by omega) (by omega) (by omega) (by omega)]; exact x9, by rw [q3 10 (by omega) (by omega) (by omega) (by omega)]; exact x10, by rw [q4, eX]; rfl, by rw [q3 12 (by omega) (by omega) (by omega) (by omega)]; exact x12, by rw [q0, eK]; rfl, by rw [eI]; exact q7, fun u => (by rw [eK] at u; omega), fun u => (by rw [eK] at u; omega), fun _ => ⟨q6, q5⟩⟩
      have br := yL_br (v := f (yP f n a)) (A := JW x jtbC mX7_step (d + 1) (jV P) 119 [(0, .ref (x.2.2.2 p))] [] M3) (B := JC x jtbC mX7_readWord d [.ref (x.2.2.2 p)] M3 (jV fun M4 => P M4)) notL word
      refine ⟨br.1, fun c => ⟨2, x9, by omega, sC_2, ?_⟩⟩
      rw [tx3 _ lt]
      exact br.2 c
    · intro M4 e4
      have eK : yK f n a = 0 := by unfold yK; rw [if_pos ge]
      have eX : yX f n a = yP f n a := by unfold yX; rw [if_pos ge]
      have eI : yI f n a = 26 := by unfold yI; rw [if_neg (fun u => by rw [eK] at u; omega)]
      have o : ∀ k, k ≠ 0 → M4.1 p k = M3.1 p k := fun k hk => by rw [e4, jrI_s, pk_un hk]
      refine h M4 ⟨by rw [e4]; exact s3.tr (jsame.I rfl), fun k hk => by rw [o k (by omega)]; exact k3 k (by omega) (by omega) (by omega)⟩ ⟨by rw [o 9 (by omega)]; exact x9, by rw [o 10 (by omega)]; exact x10, by rw [o 11 (by omega), eX]; exact x11, by rw [o 12 (by omega)]; exact x12, by rw [e4, jrI_s, pk_us, eK]; rfl, by rw [o 3 (by omega), x3, eI]; rfl, fun u => (by rw [eK] at u; omega), fun u => (by rw [eK] at u; omega), fun u => (by rw [eK] at u; omega)⟩
  refine jloop (fun i (M1 : jM) => JW x jtbC mX7_step (d + 1) (jV P) 0 [(0, .ref (x.2.2.2 p))] [] M1) (fun i M1 => jsame (fun r => r = p) M M1 ∧ M1.2 = M.2 ∧ (∀ k, k ≠ 11 → M1.1 p k = M.1 p k) ∧ M1.1 p 11 = nI (a + i)) (yRun yB f n a) ?_ ?_ 0 M (Nat.zero_le _) ⟨jsame.rf, rfl, fun _ _ => rfl, h11⟩
  · rintro M1 ⟨g1, g2, g3, g4⟩
    have tx1 : ∀ k, k < n → M1.1 2 k = f k := fun k hk => by rw [(g1 2 np).1]; exact tx k hk
    refine b_X7_step_0 a0 ?_
    rw [g3 10 (by omega), h10, g4]
    refine pk_le n (a + yRun yB f n a) (fun _ => rest M1 g1 g2 g3 g4) (fun lt => ⟨2, by rw [g3 9 (by omega)]; exact h9, by omega, sC_2, a + yRun yB f n a, by omega, rfl, ?_⟩)
    have nb := of_decide_eq_false (yRun_end (p := yB) (f := f) (n := n) (a := a) (by omega))
    rw [tx1 _ lt]
    refine ⟨fun c => absurd (Or.inl c) nb, fun _ => ⟨2, by rw [g3 9 (by omega)]; exact h9, by omega, sC_2, ?_⟩⟩
    rw [tx1 _ lt]
    exact ⟨fun _ => rest M1 g1 g2 g3 g4, fun c => absurd (Or.inr c) nb⟩
  · rintro i M1 hi ⟨g1, g2, g3, g4⟩ ih
    have tx1 : ∀ k, k < n → M1.1 2 k = f k := fun k hk => by rw [(g1 2 np).1]; exact tx k hk
    have yb := of_decide_eq_true (yRun_in (p := yB) hi)
    have go : ∀ M2, M2 = jrI M1 p (upd (M1.1 p) 11 (M1.1 p 11 + 1)) → JW x jtbC mX7_step (d + 1) (jV P) 0 [(0, .ref (x.2.2.2 p))] [] M2 := fun M2 e2 => by
      refine ih M2 ⟨by rw [e2]; exact g1.tr (jsame.I rfl), by rw [e2]; exact g2, fun k hk => by rw [e2, jrI_s, pk_un hk]; exact g3 k hk, ?_⟩
      rw [e2, jrI_s, pk_us, g4, nI_1]; rfl
    refine b_X7_step_0 a0 ?_
    rw [g4] at go
    rw [g3 10 (by omega), h10, g4]
    refine pk_le n (a + i) (fun c => absurd c (by omega)) (fun _ => ⟨2, by rw [g3 9 (by omega)]; exact h9, by omega, sC_2, a + i, by omega, rfl, ?_⟩)
    rw [tx1 _ (by omega)]
    refine ⟨fun c => go, fun nc => ⟨2, by rw [g3 9 (by omega)]; exact h9, by omega, sC_2, ?_⟩⟩
    rw [tx1 _ (by omega)]
    exact ⟨fun c => absurd (yb.resolve_left nc) c, fun _ => go⟩
/-- a fault at the token behind a -/
def yF (f : Nat → Int32) (n a : Nat) (k : Int32) : Int32 × Int32 := (if yK f n a = 1 then 1 else k, nI (yP f n a))
/-- the reader with its text -/
def cRt (M : jM) (p : Nat) (f : Nat → Int32) (n a : Nat) : Prop := cTx M p f n ∧ cRd M p f n a ∧ a ≤ n
/-- it has told a fault -/
def cFt (M M' : jM) (p : Nat) (e : Int32 × Int32) : Prop := jsame (fun r => r = p) M M' ∧ M'.1 p 6 = e.1 ∧ M'.1 p 7 = e.2
theorem k_refuse {P : jM → Bool → Prop} {k : Int32} (h0 : cRt M p f n a) (h : ∀ M', cFt M M' p (yF f n a k) → P M' false) : JC x jtbC mX7_refuse d [.ref (x.2.2.2 p), .int k] M (jZ P) := by
  obtain ⟨⟨_, _, _, pp⟩, r, _⟩ := h0
  have a0 := aX7_at pp
  have k4 := yK_le (f := f) (n := n) (a := a)
  refine b_X7_refuse a0 ?_
  rw [r.2.2.2.2.1, show (1 : Int32) = nI 1 from rfl, nI_eq (by omega) (by omega)]
  have fin : ∀ v, v = (yF f n a k).1 → ∀ M1, M1 = jrI M p (upd (M.1 p) 6 v) → ∀ M2, M2 = jrI M1 p (upd (M1.1 p) 7 (M1.1 p 12)) → P M2 false := fun v hv M1 e1 M2 e2 => by
    refine h M2 ⟨by rw [e2, e1]; exact (jsame.I (S := fun r => r = p) rfl).tr (jsame.I rfl), by rw [e2, jrI_s, pk_un (by omega), e1, jrI_s, pk_us]; exact hv, ?_⟩
    rw [e2, jrI_s, pk_us, e1, jrI_s, pk_un (by omega)]; exact r.2.2.2.1
  exact ⟨fun c => fin k (by unfold yF; rw [if_neg c]), fun c => fin (nI 1) (by unfold yF; rw [if_pos c]; rfl)⟩
theorem k_stepOn {P : jM → Prop} (h0 : cRt M p f n a) (h : ∀ M', rKp p M M' → cRt M' p f n (yX f n a) → P M') : JC x jtbC mX7_step (d + 1) [.ref (x.2.2.2 p)] M (jV P) := by
  obtain ⟨t, r, le⟩ := h0
  exact k_step t r.1 r.2.1 r.2.2.1 (yX_le le) (fun M' k1 k2 => h M' k1 ⟨t.keep k1.1, k2, yX_le le⟩)
theorem k_takeWord {P : jM → Bool → Prop} {w : Nat} (hw : w < 26) (h0 : cRt M p f n a) (h1 : yI f n a = w → ∀ M', rKp p M M' → cRt M' p f n (yX f n a) → P M' true) (h2 : ¬ yI f n a = w → ∀ M', cFt M M' p (yF f n a 2) → P M' false) : JC x jtbC mX7_takeWord (d + 2) [.ref (x.2.2.2 p), .int (nI w)] M (jZ P) := by
  have a0 := aX7_at h0.1.2.2.2
  refine b_X7_takeWord (d := d + 1) a0 ?_
  have e : M.1 p 3 = nI w ↔ yI f n a = w := by
    rw [h0.2.1.2.2.2.2.2.1]
    unfold yWx
    by_cases q : yI f n a < 26
    · rw [if_pos q, nI_eq (by omega) (by omega)]
    · rw [if_neg q]
      exact ⟨fun u => absurd u.symm (nI_ne1 (by omega)), fun u => by omega⟩
  rw [e]
  exact ⟨fun c => k_stepOn h0 (fun M' g1 g2 => h1 c M' g1 g2), fun c => k_refuse h0 (fun M' g => h2 c M' g)⟩
theorem k_takeSemi {P : jM → Bool → Prop} (h0 : cRt M p f n a) (h1 : yK f n a = 4 ∧ yG f n a = 59 → ∀ M', rKp p M M' → cRt M' p f n (yX f n a) → P M' true) (h2 : ¬ (yK f n a = 4 ∧ yG f n a = 59) → ∀ M', cFt M M' p (yF f n a 2) → P M' false) : JC x jtbC mX7_takeSemicolon (d + 2) [.ref (x.2.2.2 p)] M (jZ P) := by
  have a0 := aX7_at h0.1.2.2.2
  have k4 := yK_le (f := f) (n := n) (a := a)
  have r := h0.2.1
  refine b_X7_takeSemicolon (d := d + 1) a0 ?_
  rw [r.2.2.2.2.1, show (4 : Int32) = nI 4 from rfl, nI_eq (by omega) (by omega)]
  refine ⟨fun c => k_refuse h0 (fun M' g => h2 (fun u => c u.1) M' g), fun c => ?_⟩
  rw [r.2.2.2.2.2.2.2.1 c]
  exact ⟨fun c2 => k_stepOn h0 (fun M' g1 g2 => h1 ⟨c, c2⟩ M' g1 g2), fun c2 => k_refuse h0 (fun M' g => h2 (fun u => c2 u.2) M' g)⟩
theorem k_takeNumber {P : jM → Bool → Prop} {lo hi : Int32} (h0 : cRt M p f n a) (h1 : yK f n a = 3 → lo.toInt ≤ yN f n a → (yN f n a : Int) ≤ hi.toInt → ∀ M', jsame (fun r => r = p) M M' → (∀ k, (k = 6 ∨ k = 7) → M'.1 p k = M.1 p k) → M'.1 p 5 = nI (yN f n a) → cRt M' p f n (yX f n a) → P M' true) (h2 : ¬ yK f n a = 3 → ∀ M', cFt M M' p (yF f n a 2) → P M' false) (h3 : yK f n a = 3 → ¬ (lo.toInt ≤ yN f n a ∧ (yN f n a : Int) ≤ hi.toInt) → ∀ M', cFt M M' p (yF f n a 4) → P M' false) : JC x jtbC mX7_takeNumber (d + 2) [.ref (x.2.2.2 p), .int lo, .int hi] M (jZ P) := by
  have a0 := aX7_at h0.1.2.2.2
  have k4 := yK_le (f := f) (n := n) (a := a)
  obtain ⟨t, r, le⟩ := id h0
  refine b_X7_takeNumber (d := d + 1) a0 ?_
  rw [r.2.2.2.2.1, show (3 : Int32) = nI 3 from rfl, nI_eq (by omega) (by omega)]
  refine ⟨fun c => ?_, fun c => k_refuse h0 (fun M' g => h2 c M' g)⟩
  have nl := yN_lt c
  rw [r.2.2.2.2.2.2.1 c, Int32.lt_iff_toInt_lt, Int32.le_iff_toInt_le, nI_toInt (by omega)]
  refine ⟨fun c1 => k_refuse h0 (fun M' g => h3 c (fun u => by omega) M' g), fun c1 => ⟨fun c2 M2 e2 => ?_, fun c2 => k_refuse h0 (fun M' g => h3 c (fun u => c2 u.2) M' g)⟩⟩
  have s2 : jsame (fun r => r = p) M M2 := by rw [e2]; exact jsame.I rfl
  have o : ∀ k, k ≠ 5 → M2.1 p k = M.1 p k := fun k hk => by rw [e2, jrI_s, pk_un hk]
  refine k_step (t.keep s2) (by rw [o 9 (by omega)]; exact r.1) (by rw [o 10 (by omega)]; exact r.2.1) (by rw [o 11 (by omega)]; exact r.2.2.1) (yX_le le) (fun M' k1 k2 => h1 c (by omega) c2 M' (s2.tr k1.1) (fun k hk => by rw [k1.2 k (by omega), o k (by omega)]) (by rw [k1.2 5 (by omega), e2, jrI_s, pk_us]) ⟨t.keep (s2.tr k1.1), k2, yX_le le⟩)
theorem k_begin7 {P : jM → Prop} (n9 : n ≤ 900) (tx : ∀ k, k < n → M.1 2 k = f k) (wd : ∀ k, k < 26 → M.2 (p + 1) k = qWord k) (pp : p = 13 ∨ p = 25) (h : ∀ M', jsame (fun r => r = p) M M' → M'.1 p 6 = 0 → M'.1 p 7 = -1 → cRt M' p f n 0 → P M') : JC x jtbC mX7_begin (d + 2) [.ref (x.2.2.2 p), .ref (x.2.2.2 2), .int (nI n)] M (jV P) := by
  have a0 := aX7_at pp
  have ht : cTx M p f n := ⟨n9, tx, wd, pp⟩
  refine b_X7_begin (d := d + 1) a0 sC_2 (by decide) ⟨by decide, ?_⟩
  intro M1 e1
  refine k_minN (by omega) (by decide) ?_
  rw [Nat.min_eq_left n9]
  intro M3 e3 M4 e4 M5 e5 M6 e6
  have s6 : jsame (fun r => r = p) M M6 := by rw [e6, e5, e4, e3, e1]; exact ((((jsame.I (S := fun r => r = p) rfl).tr (jsame.I rfl)).tr (jsame.I rfl)).tr (jsame.I rfl)).tr (jsame.I rfl)
  refine k_step (a := 0) (ht.keep s6) ?_ ?_ ?_ (Nat.zero_le _) (fun M' k1 k2 => h M' (s6.tr k1.1) ?_ ?_ ⟨ht.keep (s6.tr k1.1), k2, Nat.zero_le _⟩)
  · rw [e6, jrI_s, pk_un (by omega), e5, jrI_s, pk_un (by omega), e4, jrI_s, pk_un (by omega), e3, jrI_s, pk_un (by omega), e1, jrI_s, pk_us]
  · rw [e6, jrI_s, pk_un (by omega), e5, jrI_s, pk_un (by omega), e4, jrI_s, pk_un (by omega), e3, jrI_s, pk_us]
  · rw [e6, jrI_s, pk_un (by omega), e5, jrI_s, pk_un (by omega), e4, jrI_s, pk_us]; rfl
  · rw [k1.2 6 (by omega), e6, jrI_s, pk_un (by omega), e5, jrI_s, pk_us]
  · rw [k1.2 7 (by omega), e6, jrI_s, pk_us]
end YST
