/-! the model's wishes -/
def mSi (N : jM) (pl : qP) (ask : Nat) (want : Nat → Nat → Nat) : Prop := (∀ v, v < qn pl → N.1 7 v = jb (ask.testBit v)) ∧ (∀ v s, want v s ≤ 99) ∧ ∀ v s, v < qn pl → ask.testBit v = true → s < qSt pl v → N.1 8 (v * 9 + s) = nI (want v s)
def mCp (N : jM) (pl : qP) (cp : Nat → Nat) : Prop := (∀ c, c < qc pl → N.1 9 c = nI (cp c)) ∧ ∀ c, cp c ≤ 99
/-- the cells that may show a strip's promise -/
def qAb (pl : qP) (want : Nat → Nat → Nat) (cp : Nat → Nat) (v s : Nat) : Nat → Nat
  | 0 => 0
  | c + 1 => if qFv pl v c = s ∧ cp c = want v s then qAb pl want cp v s c ||| 2 ^ c else qAb pl want cp v s c
theorem qAb_bit {pl : qP} {want : Nat → Nat → Nat} {cp : Nat → Nat} {v s : Nat} (k : Nat) : ∀ n, (qAb pl want cp v s n).testBit k = (decide (k < n) && decide (qFv pl v k = s ∧ cp k = want v s))
  | 0 => by simp [qAb]
  | n + 1 => by
    have ih := qAb_bit (pl := pl) (want := want) (cp := cp) (v := v) (s := s) k n
    show (if qFv pl v n = s ∧ cp n = want v s then qAb pl want cp v s n ||| 2 ^ n else qAb pl want cp v s n).testBit k = _
    by_cases hk : k = n
    · subst hk
      have z : ¬ k < k := Nat.lt_irrefl k
      by_cases c : qFv pl v k = s ∧ cp k = want v s
      · rw [if_pos c, fb_bit_set, ih]
        simp [c]
      · rw [if_neg c, ih]
        simp [c]
    · have e : decide (k < n + 1) = decide (k < n) := by
        congr 1; apply propext; omega
      by_cases c : qFv pl v n = s ∧ cp n = want v s
      · rw [if_pos c, fb_bit_set, ih, e]
        simp [hk]
      · rw [if_neg c, ih, e]
theorem qAb_lt {pl : qP} {want : Nat → Nat → Nat} {cp : Nat → Nat} {v s : Nat} : ∀ n, qAb pl want cp v s n < 2 ^ n := fun n => by
  apply Nat.lt_pow_two_of_testBit
  intro i hi
  rw [qAb_bit, decide_eq_false (by omega), Bool.false_and]
theorem qAb_0 {pl : qP} {want : Nat → Nat → Nat} {cp : Nat → Nat} {v s n : Nat} : qAb pl want cp v s n = 0 ↔ ∀ c, c < n → ¬ (qFv pl v c = s ∧ cp c = want v s) := by
  constructor
  · intro h c hc hz
    have := qAb_bit (pl := pl) (want := want) (cp := cp) (v := v) (s := s) c n
    rw [h, decide_eq_true hc, decide_eq_true hz] at this
    simp at this
  · intro h
    apply Nat.eq_of_testBit_eq
    intro i
    rw [qAb_bit, Nat.zero_testBit]
    by_cases hi : i < n
    · rw [decide_eq_false (h i hi), Bool.and_false]
    · rw [decide_eq_false hi, Bool.false_and]
/-- every strip has a cell -/
theorem strip_ne {w h side s : Nat} (h8 : side < 8) (hw : 0 < w) (hh : 0 < h) (hs : s < qS w h side) : ∃ c, c < w * h ∧ qF w h side c = s := by
  have key : ∀ a b, a < w → b < h → b * w + a < w * h ∧ (b * w + a) % w = a ∧ (b * w + a) / w = b := by
    intro a b ha hb
    refine ⟨?_, ?_, ?_⟩
    · have : (b + 1) * w ≤ h * w := Nat.mul_le_mul_right w hb
      rw [Nat.mul_comm w h]
      have e : (b + 1) * w = b * w + w := Nat.succ_mul b w
      omega
    · rw [Nat.add_comm, Nat.add_mul_mod_self_right, Nat.mod_eq_of_lt ha]
    · rw [Nat.add_comm, Nat.add_mul_div_right _ _ hw, Nat.div_eq_of_lt ha, Nat.zero_add]
  unfold qS at hs
  have go : ∀ a b, a < w → b < h → qF w h side (b * w + a) = s → ∃ c, c < w * h ∧ qF w h side c = s := fun a b ha hb e => ⟨_, (key a b ha hb).1, e⟩
  rcases (show side = 0 ∨ side = 1 ∨ side = 2 ∨ side = 3 ∨ side = 4 ∨ side = 5 ∨ side = 6 ∨ side = 7 by omega) with rfl | rfl | rfl | rfl | rfl | rfl | rfl | rfl <;> simp at hs
  · exact go (w - 1 - s) (0) (by omega) (by omega) (by simp only [qF, (key (w - 1 - s) (0) (by omega) (by omega)).2.1, (key (w - 1 - s) (0) (by omega) (by omega)).2.2]; omega)
  · by_cases q : s < w
    · exact go (w - 1 - s) (h - 1) (by omega) (by omega) (by simp only [qF, (key (w - 1 - s) (h - 1) (by omega) (by omega)).2.1, (key (w - 1 - s) (h - 1) (by omega) (by omega)).2.2]; omega)
    · exact go (0) (h - 1 - (s - (w - 1))) (by omega) (by omega) (by simp only [qF, (key (0) (h - 1 - (s - (w - 1))) (by omega) (by omega)).2.1, (key (0) (h - 1 - (s - (w - 1))) (by omega) (by omega)).2.2]; omega)
  · exact go (0) (h - 1 - s) (by omega) (by omega) (by simp only [qF, (key (0) (h - 1 - s) (by omega) (by omega)).2.1, (key (0) (h - 1 - s) (by omega) (by omega)).2.2]; omega)
  · by_cases q : s < w
    · exact go (s) (h - 1) (by omega) (by omega) (by simp only [qF, (key (s) (h - 1) (by omega) (by omega)).2.1, (key (s) (h - 1) (by omega) (by omega)).2.2]; omega)
    · exact go (w - 1) (h - 1 - (s - (w - 1))) (by omega) (by omega) (by simp only [qF, (key (w - 1) (h - 1 - (s - (w - 1))) (by omega) (by omega)).2.1, (key (w - 1) (h - 1 - (s - (w - 1))) (by omega) (by omega)).2.2]; omega)
  · exact go (s) (0) (by omega) (by omega) (by simp only [qF, (key (s) (0) (by omega) (by omega)).2.1, (key (s) (0) (by omega) (by omega)).2.2])
  · by_cases q : s < w
    · exact go (s) (0) (by omega) (by omega) (by simp only [qF, (key (s) (0) (by omega) (by omega)).2.1, (key (s) (0) (by omega) (by omega)).2.2]; omega)
    · exact go (w - 1) (s - (w - 1)) (by omega) (by omega) (by simp only [qF, (key (w - 1) (s - (w - 1)) (by omega) (by omega)).2.1, (key (w - 1) (s - (w - 1)) (by omega) (by omega)).2.2]; omega)
  · exact go (0) (s) (by omega) (by omega) (by simp only [qF, (key (0) (s) (by omega) (by omega)).2.1, (key (0) (s) (by omega) (by omega)).2.2])
  · by_cases q : s < w
    · exact go (w - 1 - s) (0) (by omega) (by omega) (by simp only [qF, (key (w - 1 - s) (0) (by omega) (by omega)).2.1, (key (w - 1 - s) (0) (by omega) (by omega)).2.2]; omega)
    · exact go (0) (s - (w - 1)) (by omega) (by omega) (by simp only [qF, (key (0) (s - (w - 1)) (by omega) (by omega)).2.1, (key (0) (s - (w - 1)) (by omega) (by omega)).2.2]; omega)
theorem qG_max {w h side s : Nat} {f : Nat → Nat} : ∀ {n : Nat}, (∃ c, c < n ∧ qF w h side c = s) → ∃ c, c < n ∧ qF w h side c = s ∧ f c = qG w h side s f n
  | 0, ⟨c, hc, _⟩ => absurd hc (Nat.not_lt_zero _)
  | n + 1, ⟨c, hc, e⟩ => by
    show ∃ c, c < n + 1 ∧ qF w h side c = s ∧ f c = (if qF w h side n = s then max (qG w h side s f n) (f n) else qG w h side s f n)
    by_cases q : qF w h side n = s
    · rw [if_pos q]
      by_cases z : ∃ c, c < n ∧ qF w h side c = s
      · obtain ⟨k, k1, k2, k3⟩ := qG_max (f := f) z
        rcases Nat.le_total (f n) (qG w h side s f n) with m | m
        · exact ⟨k, by omega, k2, by rw [Nat.max_eq_left m]; exact k3⟩
        · exact ⟨n, by omega, q, by rw [Nat.max_eq_right m]⟩
      · have h0 : qG w h side s f n = 0 := by
          clear hc e q
          induction n with
          | zero => rfl
          | succ n ih =>
            show (if qF w h side n = s then max (qG w h side s f n) (f n) else qG w h side s f n) = 0
            rw [if_neg (fun e => z ⟨n, by omega, e⟩)]
            exact ih (fun ⟨c, c1, c2⟩ => z ⟨c, by omega, c2⟩)
        exact ⟨n, by omega, q, by rw [h0]; omega⟩
    · rw [if_neg q]
      have hcn : c < n := by
        rcases Nat.lt_or_ge c n with a | a
        · exact a
        · exact absurd (by obtain rfl : c = n := by omega
                           exact e) q
      obtain ⟨k, k1, k2, k3⟩ := qG_max (f := f) ⟨c, hcn, e⟩
      exact ⟨k, by omega, k2, k3⟩
theorem qG_ge {w h side s : Nat} {f : Nat → Nat} {c : Nat} (e : qF w h side c = s) : ∀ {n : Nat}, c < n → f c ≤ qG w h side s f n
  | 0, hc => absurd hc (Nat.not_lt_zero _)
  | n + 1, hc => by
    show f c ≤ (if qF w h side n = s then max (qG w h side s f n) (f n) else qG w h side s f n)
    rcases Nat.lt_or_ge c n with q | q
    · have := qG_ge (f := f) e q
      split <;> omega
    · obtain rfl : c = n := by omega
      rw [if_pos e]
      omega
theorem qG_bd {w h side s : Nat} {f : Nat → Nat} {B : Nat} : ∀ {n : Nat}, (∀ c, c < n → qF w h side c = s → f c ≤ B) → qG w h side s f n ≤ B
  | 0, _ => Nat.zero_le _
  | n + 1, h' => by
    have ih := qG_bd (f := f) (B := B) (n := n) (fun c hc e => h' c (by omega) e)
    show (if qF w h side n = s then max (qG w h side s f n) (f n) else qG w h side s f n) ≤ B
    by_cases q : qF w h side n = s
    · rw [if_pos q]
      have := h' n (by omega) q
      omega
    · rw [if_neg q]; exact ih
/-- a strip can show its promise, by the greatest or by the cells that may -/
theorem able_iff {pl : qP} (w : qWf pl) {want : Nat → Nat → Nat} {cp : Nat → Nat} {v s : Nat} (hv : v < qn pl) (hs : s < qSt pl v) (hle : ∀ c, c < qc pl → cp c ≤ want v (qFv pl v c)) : qAb pl want cp v s (qc pl) = 0 ↔ ¬ qG (qw pl) (qh pl) (qSide pl v) s cp (qc pl) = want v s := by
  obtain ⟨w1, w2, w3⟩ := qn_pos w hv
  rw [qAb_0]
  constructor
  · intro h e
    obtain ⟨c, c1, c2, c3⟩ := qG_max (f := cp) (strip_ne (w.2.2.2.2.2.2.2.2.2.1 v) w1 w2 hs)
    exact h c c1 ⟨c2, c3.trans e⟩
  · rintro h c hc ⟨e1, e2⟩
    apply h
    have a := qG_ge (f := cp) (show qF (qw pl) (qh pl) (qSide pl v) c = s from e1) hc
    have b := qG_bd (w := qw pl) (h := qh pl) (side := qSide pl v) (s := s) (f := cp) (B := want v s) (n := qc pl) (fun k hk e => by
      have := hle k hk
      rw [show qFv pl v k = s from e] at this
      exact this)
    omega
section KMW
variable {x : jX} {d : Nat} {M : jM} {pl : qP} {ask : Nat} {want : Nat → Nat → Nat} {cp : Nat → Nat}
theorem jb_t (b : Bool) : jb b = 1 ↔ b = true := by cases b <;> decide
theorem k_mTellCaps {P : jM → Prop} (hp : mPl (M.1 5) pl) (hs : mSi M pl ask want) (h : ∀ M', jsame (fun q => q = 9) M M' → M'.2 = M.2 → mCp M' pl (qCp pl ask want) → P M') : JC x jtbM mX12_tellCaps (d + 1) [.ref (x.2.2.2 0)] M (jV P) := by
  have h25 := hp.wf.c25
  have h6 := hp.wf.2.2.2.1
  refine b_X12_tellCaps ?_
  refine jloop (fun i (M' : jM) => JW x jtbM mX12_tellCaps (d + 1) (jV P) 2 [(0, .ref (x.2.2.2 0)), (1, .int (nI i))] [] M') (fun i M' => jsame (fun q => q = 9) M M' ∧ M'.2 = M.2 ∧ ∀ c, c < i → M'.1 9 c = nI (qCp pl ask want c)) (qc pl) ?_ ?_ 0 M (Nat.zero_le _) ⟨jsame.rf, rfl, fun c hc => absurd hc (Nat.not_lt_zero _)⟩
  · rintro M' ⟨g1, g2, g3⟩
    have hp1 : mPl (M'.1 5) pl := by rw [(g1 5 (by omega)).1]; exact hp
    exact b_X12_tellCaps_2 (k_mCells hp1 (pk_le (qc pl) (qc pl) (fun _ => h M' g1 g2 ⟨g3, fun c => qCp_le hp.wf c⟩) (fun c => absurd c (by omega))))
  · rintro i M' hi ⟨g1, g2, g3⟩ ih
    have hp1 : mPl (M'.1 5) pl := by rw [(g1 5 (by omega)).1]; exact hp
    refine b_X12_tellCaps_2 (k_mCells hp1 (pk_le (qc pl) i (fun c => absurd c (by omega)) (fun _ => ⟨3 + i, by omega, by rw [jn3, nI_add], i, by omega, rfl, ?_⟩)))
    rintro M2 rfl
    refine jloop (fun v (M' : jM) => JW x jtbM mX12_tellCaps (d + 1) (jV P) 26 [(0, .ref (x.2.2.2 0)), (1, .int (nI i)), (2, .int (nI v))] [] M') (fun v M' => jsame (fun q => q = 9) M M' ∧ M'.2 = M.2 ∧ (∀ c, c < i → M'.1 9 c = nI (qCp pl ask want c)) ∧ M'.1 9 i = nI (qCap pl ask want i v)) (qn pl) ?_ ?_ 0 _ (Nat.zero_le _) ⟨g1.tr (jsame.I rfl), g2, fun c hc => by rw [jrI_s, pk_un (by omega)]; exact g3 c hc, by rw [jrI_s, pk_us, hp1.most (by omega)]; rfl⟩
    · rintro M3 ⟨k1, k2, k3, k4⟩
      refine b_X12_tellCaps_26 ?_
      rw [(k1 5 (by omega)).1, hp.n, nI_1]
      refine pk_le (qn pl) (qn pl) (fun _ => ih M3 ⟨k1, k2, fun c hc => ?_⟩) (fun c => absurd c (by omega))
      rcases Nat.lt_or_ge c i with q | q
      · exact k3 c q
      · obtain rfl : c = i := by omega
        exact k4
    · rintro v M3 hv ⟨k1, k2, k3, k4⟩ ihv
      have hp3 : mPl (M3.1 5) pl := by rw [(k1 5 (by omega)).1]; exact hp
      refine b_X12_tellCaps_26 ?_
      simp only [nI_1]
      rw [hp3.n]
      refine pk_le (qn pl) v (fun c => absurd c (by omega)) (fun _ => ⟨v, by omega, rfl, ?_⟩)
      rw [(k1 7 (by omega)).1, hs.1 v hv, jb_0]
      refine ⟨fun c => ihv M3 ⟨k1, k2, k3, by rw [k4]; simp [qCap, c]⟩, fun c => ⟨i, by omega, rfl, 78 + v, by omega, by rw [jn78, nI_add], ?_⟩⟩
      have c' : ask.testBit v = true := by revert c; cases ask.testBit v <;> simp
      rw [hp3.side hv]
      have hF := qF_lt (hp.wf.2.2.2.2.2.2.2.2.2.1 v) hi
      have h9 := qSt_le hp.wf v
      have hF' : qFv pl v i < qSt pl v := hF
      refine k_mStripOf hp3 (hp.wf.2.2.2.2.2.2.2.2.2.1 v) hi ⟨v * 9 + qFv pl v i, by omega, ?_, ?_⟩
      · rw [jn9, pk_mul, Nat.mul_comm]; exact nI_add _ _
      · rw [k4, (k1 8 (by omega)).1, hs.2.2 v _ hv c' hF']
        have q1 := qCap_le hp.wf (ask := ask) (want := want) i v
        have q2 := hs.2.1 v (qFv pl v i)
        refine k_minN (by omega) (by omega) ?_
        rintro M4 rfl
        refine ihv _ ⟨k1.tr (jsame.I rfl), k2, fun k hk => ?_, ?_⟩
        · rw [jrI_s, pk_un (by omega)]; exact k3 k hk
        · rw [jrI_s, pk_us]; simp [qCap, c']
theorem k_mAsk {P : jM → Prop} {set : Nat} (hset : set < 64) (hp : mPl (M.1 5) pl) (h : ∀ M', jsame (fun q => q = 7 ∨ q = 8 ∨ q = 9) M M' → M'.2 = M.2 → mSi M' pl (set &&& qk pl) (qLine pl) → mCp M' pl (qCp pl (set &&& qk pl) (qLine pl)) → P M') : JC x jtbM mX12_ask (d + 2) [.ref (x.2.2.2 0), .int (nI set)] M (jV P) := by
  have h6 := hp.wf.2.2.2.1
  refine b_X12_ask ?_
  refine jloop (fun i (M' : jM) => JW x jtbM mX12_ask (d + 2) (jV P) 2 [(0, .ref (x.2.2.2 0)), (1, .int (nI set)), (2, .int (nI i))] [] M') (fun i M' => jsame (fun q => q = 7 ∨ q = 8) M M' ∧ M'.2 = M.2 ∧ (∀ v, v < i → M'.1 7 v = jb ((set &&& qk pl).testBit v)) ∧ ∀ v s, v < i → (set &&& qk pl).testBit v = true → s < qSt pl v → M'.1 8 (v * 9 + s) = nI (qLine pl v s)) (qn pl) ?_ ?_ 0 M (Nat.zero_le _) ⟨jsame.rf, rfl, fun v hv => absurd hv (Nat.not_lt_zero _), fun v s hv => absurd hv (Nat.not_lt_zero _)⟩
  · rintro M' ⟨g1, g2, g3, g4⟩
    have hp1 : mPl (M'.1 5) pl := by rw [(g1 5 (by omega)).1]; exact hp
    refine b_X12_ask_2 ?_
    rw [hp1.n]
    refine pk_le (qn pl) (qn pl) (fun _ => ?_) (fun c => absurd c (by omega))
    refine k_mTellCaps hp1 (ask := set &&& qk pl) (want := qLine pl) ⟨g3, hp.wf.2.2.2.2.2.2.2.2.2.2, g4⟩ (fun M2 k1 k2 k3 => ?_)
    refine h M2 (fun q hq => ⟨by rw [(k1 q (by omega)).1, (g1 q (by omega)).1], by rw [(k1 q (by omega)).2, (g1 q (by omega)).2]⟩) (k2.trans g2) ⟨fun v hv => by rw [(k1 7 (by omega)).1]; exact g3 v hv, hp.wf.2.2.2.2.2.2.2.2.2.2, fun v s a b c => by rw [(k1 8 (by omega)).1]; exact g4 v s a b c⟩ k3
  · rintro i M' hi ⟨g1, g2, g3, g4⟩ ih
    have hp1 : mPl (M'.1 5) pl := by rw [(g1 5 (by omega)).1]; exact hp
    refine b_X12_ask_2 ?_
    rw [hp1.n]
    refine pk_le (qn pl) i (fun c => absurd c (by omega)) (fun _ => ?_)
    have go : ∀ b, b = (set &&& qk pl).testBit i → JW x jtbM mX12_ask (d + 2) (jV P) 47 [(0, .ref (x.2.2.2 0)), (1, .int (nI set)), (2, .int (nI i)), (3, .int (0 : Int32))] [] (jrI M' 7 (upd (M'.1 7) i (jb b))) := by
      intro b hb
      refine jloop (fun s (M2 : jM) => JW x jtbM mX12_ask (d + 2) (jV P) 47 [(0, .ref (x.2.2.2 0)), (1, .int (nI set)), (2, .int (nI i)), (3, .int (nI s))] [] M2) (fun s M2 => jsame (fun q => q = 7 ∨ q = 8) M M2 ∧ M2.2 = M.2 ∧ (∀ v, v < i + 1 → M2.1 7 v = jb ((set &&& qk pl).testBit v)) ∧ (∀ v s, v < i → (set &&& qk pl).testBit v = true → s < qSt pl v → M2.1 8 (v * 9 + s) = nI (qLine pl v s)) ∧ ((set &&& qk pl).testBit i = true → ∀ s', s' < s → M2.1 8 (i * 9 + s') = nI (qLine pl i s'))) (qSt pl i) ?_ ?_ 0 _ (Nat.zero_le _) ⟨g1.tr (jsame.I (Or.inl rfl)), g2, fun v hv => ?_, fun v s a b c => by rw [jrI_n (by omega)]; exact g4 v s a b c, fun _ s' hs' => absurd hs' (Nat.not_lt_zero _)⟩
      · rintro M2 ⟨k1, k2, k3, k4, k5⟩
        have hp2 : mPl (M2.1 5) pl := by rw [(k1 5 (by omega)).1]; exact hp
        have h9 := qSt_le hp.wf i
        refine b_X12_ask_47 (k_mStrips hp2 hi (pk_le (qSt pl i) (qSt pl i) (fun _ => ?_) (fun c => absurd c (by omega))))
        rw [nI_1]
        refine ih M2 ⟨k1, k2, k3, fun v s a b c => ?_⟩
        rcases Nat.lt_or_ge v i with q | q
        · exact k4 v s q b c
        · obtain rfl : v = i := by omega
          exact k5 b s c
      · rintro s M2 hs ⟨k1, k2, k3, k4, k5⟩ ihs
        have hp2 : mPl (M2.1 5) pl := by rw [(k1 5 (by omega)).1]; exact hp
        have h9 := qSt_le hp.wf i
        refine b_X12_ask_47 (k_mStrips hp2 hi (pk_le (qSt pl i) s (fun c => absurd c (by omega)) (fun _ => ⟨90 + (i * 9 + s), by omega, by rw [jn90, jn9, pk_mul, nI_add, nI_add, Nat.mul_comm 9 i, Nat.add_assoc], i * 9 + s, by omega, by rw [jn9, pk_mul, nI_add, Nat.mul_comm 9 i], ?_⟩)))
        rintro M3 rfl
        rw [nI_1]
        refine ihs _ ⟨k1.tr (jsame.I (Or.inr rfl)), k2, fun v hv => by rw [jrI_n (by omega)]; exact k3 v hv, fun v s' a b c => ?_, fun b s' hs' => ?_⟩
        · have := qSt_le hp.wf v
          rw [jrI_s, pk_un (by omega)]; exact k4 v s' a b c
        · rw [jrI_s]
          by_cases q : s' = s
          · subst q
            rw [pk_us]
            rw [Nat.testBit_and] at b
            exact hp2.line hi (by revert b; cases set.testBit i <;> simp) hs
          · rw [pk_un (by omega)]; exact k5 b s' (by omega)
      · rw [jrI_s]
        by_cases q : v = i
        · rw [q, pk_us, hb]
        · rw [pk_un q]; exact g3 v (by omega)
    rw [nI_testBit _ (by omega) (by omega)]
    refine ⟨fun c => ⟨i, by omega, rfl, ?_⟩, fun c => ⟨84 + i, by omega, by rw [jn84, nI_add], ?_⟩⟩
    · rintro M2 rfl
      refine go false ?_
      rw [Nat.testBit_and, Bool.eq_false_iff.mpr c]; rfl
    · rw [hp1.has hi, jb_t]
      refine ⟨fun c2 => ⟨i, by omega, rfl, ?_⟩, fun c2 => ⟨i, by omega, rfl, ?_⟩⟩
      · rintro M2 rfl
        refine go false ?_
        rw [Nat.testBit_and, Bool.eq_false_iff.mpr c2, Bool.and_false]
      · rintro M2 rfl
        refine go true ?_
        rw [Nat.testBit_and, c, c2]; rfl
theorem k_mAskAsSeen {P : jM → Prop} {f : Nat → Nat} (hp : mPl (M.1 5) pl) (ht : mTn (M.1 5) pl f) (h : ∀ M', jsame (fun q => q = 7 ∨ q = 8) M M' → M'.2 = M.2 → mSi M' pl (2 ^ qn pl - 1) (fun v s => qG (qw pl) (qh pl) (qSide pl v) s f (qc pl)) → P M') : JC x jtbM mX12_askAsSeen (d + 2) [.ref (x.2.2.2 0)] M (jV P) := by
  have h6 := hp.wf.2.2.2.1
  refine b_X12_askAsSeen ?_
  refine jloop (fun i (M' : jM) => JW x jtbM mX12_askAsSeen (d + 2) (jV P) 2 [(0, .ref (x.2.2.2 0)), (1, .int (nI i))] [] M') (fun i M' => jsame (fun q => q = 7 ∨ q = 8) M M' ∧ M'.2 = M.2 ∧ (∀ v, v < i → M'.1 7 v = 1) ∧ ∀ v s, v < i → s < qSt pl v → M'.1 8 (v * 9 + s) = nI (qG (qw pl) (qh pl) (qSide pl v) s f (qc pl))) (qn pl) ?_ ?_ 0 M (Nat.zero_le _) ⟨jsame.rf, rfl, fun v hv => absurd hv (Nat.not_lt_zero _), fun v s hv => absurd hv (Nat.not_lt_zero _)⟩
  · rintro M' ⟨g1, g2, g3, g4⟩
    have hp1 : mPl (M'.1 5) pl := by rw [(g1 5 (by omega)).1]; exact hp
    refine b_X12_askAsSeen_2 ?_
    rw [hp1.n]
    refine pk_le (qn pl) (qn pl) (fun _ => ?_) (fun c => absurd c (by omega))
    exact h M' g1 g2 ⟨fun v hv => by rw [g3 v hv, pow_all hv]; rfl, fun v s => qG_le ht.2 _, fun v s a _ c => g4 v s a c⟩
  · rintro i M' hi ⟨g1, g2, g3, g4⟩ ih
    have hp1 : mPl (M'.1 5) pl := by rw [(g1 5 (by omega)).1]; exact hp
    refine b_X12_askAsSeen_2 ?_
    rw [hp1.n]
    refine pk_le (qn pl) i (fun c => absurd c (by omega)) (fun _ => ⟨i, by omega, rfl, ?_⟩)
    rintro M2 rfl
    refine jloop (fun s (M2 : jM) => JW x jtbM mX12_askAsSeen (d + 2) (jV P) 21 [(0, .ref (x.2.2.2 0)), (1, .int (nI i)), (2, .int (nI s))] [] M2) (fun s M2 => jsame (fun q => q = 7 ∨ q = 8) M M2 ∧ M2.2 = M.2 ∧ (∀ v, v < i + 1 → M2.1 7 v = 1) ∧ (∀ v s, v < i → s < qSt pl v → M2.1 8 (v * 9 + s) = nI (qG (qw pl) (qh pl) (qSide pl v) s f (qc pl))) ∧ ∀ s', s' < s → M2.1 8 (i * 9 + s') = nI (qG (qw pl) (qh pl) (qSide pl i) s' f (qc pl))) (qSt pl i) ?_ ?_ 0 _ (Nat.zero_le _) ⟨g1.tr (jsame.I (Or.inl rfl)), g2, fun v hv => ?_, fun v s a c => by rw [jrI_n (by omega)]; exact g4 v s a c, fun s' hs' => absurd hs' (Nat.not_lt_zero _)⟩
    · rintro M3 ⟨k1, k2, k3, k4, k5⟩
      have hp2 : mPl (M3.1 5) pl := by rw [(k1 5 (by omega)).1]; exact hp
      have h9 := qSt_le hp.wf i
      refine b_X12_askAsSeen_21 (k_mStrips hp2 hi (pk_le (qSt pl i) (qSt pl i) (fun _ => ?_) (fun c => absurd c (by omega))))
      rw [nI_1]
      refine ih M3 ⟨k1, k2, k3, fun v s a c => ?_⟩
      rcases Nat.lt_or_ge v i with q | q
      · exact k4 v s q c
      · obtain rfl : v = i := by omega
        exact k5 s c
    · rintro s M3 hs ⟨k1, k2, k3, k4, k5⟩ ihs
      have hp2 : mPl (M3.1 5) pl := by rw [(k1 5 (by omega)).1]; exact hp
      have ht2 : mTn (M3.1 5) pl f := by rw [(k1 5 (by omega)).1]; exact ht
      have h9 := qSt_le hp.wf i
      refine b_X12_askAsSeen_21 (k_mStrips hp2 hi (pk_le (qSt pl i) s (fun c => absurd c (by omega)) (fun _ => ⟨78 + i, by omega, by rw [jn78, nI_add], ?_⟩)))
      rw [hp2.side hi]
      refine k_mSeenFrom hp2 ht2 (hp.wf.2.2.2.2.2.2.2.2.2.1 i) (by omega) ⟨i * 9 + s, by omega, by rw [jn9, pk_mul, nI_add, Nat.mul_comm 9 i], ?_⟩
      rintro M4 rfl
      rw [nI_1]
      refine ihs _ ⟨k1.tr (jsame.I (Or.inr rfl)), k2, fun v hv => by rw [jrI_n (by omega)]; exact k3 v hv, fun v s' a c => ?_, fun s' hs' => ?_⟩
      · have := qSt_le hp.wf v
        rw [jrI_s, pk_un (by omega)]; exact k4 v s' a c
      · rw [jrI_s]
        by_cases q : s' = s
        · rw [q, pk_us]
        · rw [pk_un (by omega)]; exact k5 s' (by omega)
    · rw [jrI_s]
      by_cases q : v = i
      · rw [q, pk_us]
      · rw [pk_un q]; exact g3 v (by omega)
theorem k_mAbleIn {P : jM → Int32 → Prop} {v s : Nat} (hp : mPl (M.1 5) pl) (hs : mSi M pl ask want) (hc : mCp M pl cp) (hv : v < qn pl) (ha : ask.testBit v = true) (hst : s < qSt pl v) (h : P M (nI (qAb pl want cp v s (qc pl)))) : JC x jtbM mX12_ableIn (d + 1) [.ref (x.2.2.2 0), .int (nI v), .int (nI s)] M (jI P) := by
  have h25 := hp.wf.c25
  have h6 := hp.wf.2.2.2.1
  have h9 := qSt_le hp.wf v
  refine b_X12_ableIn ?_
  refine jloop (fun i (a : Int32) => JW x jtbM mX12_ableIn (d + 1) (jI P) 5 [(0, .ref (x.2.2.2 0)), (1, .int (nI v)), (2, .int (nI s)), (3, .int a), (4, .int (nI i))] [] M) (fun i a => a = nI (qAb pl want cp v s i)) (qc pl) ?_ ?_ 0 0 (Nat.zero_le _) rfl
  · rintro _ rfl
    exact b_X12_ableIn_5 (k_mCells hp (pk_le (qc pl) (qc pl) (fun _ => h) (fun c => absurd c (by omega))))
  · rintro i _ hi rfl ih
    refine b_X12_ableIn_5 (k_mCells hp (pk_le (qc pl) i (fun c => absurd c (by omega)) (fun _ => ⟨78 + v, by omega, by rw [jn78, nI_add], ?_⟩)))
    rw [hp.side hv]
    have hF := qF_lt (hp.wf.2.2.2.2.2.2.2.2.2.1 v) hi
    have h9' : qS (qw pl) (qh pl) (qSide pl v) ≤ 9 := h9
    refine k_mStripOf hp (hp.wf.2.2.2.2.2.2.2.2.2.1 v) hi ?_
    have ihs := ih _ rfl
    rw [nI_1]
    refine ⟨fun c => ?_, fun c => ⟨i, by omega, rfl, v * 9 + s, by omega, by rw [jn9, pk_mul, nI_add, Nat.mul_comm 9 v], ?_⟩⟩
    · rw [nI_eq (by omega) (by omega)] at c
      have : ¬ (qFv pl v i = s ∧ cp i = want v s) := fun z => c z.1
      simpa [qAb, this] using ihs
    · rw [nI_eq (by omega) (by omega)] at c
      have q1 := hc.2 i
      have q2 := hs.2.1 v s
      rw [hc.1 i hi, hs.2.2 v s hv ha hst, nI_eq (by omega) (by omega)]
      refine ⟨fun c2 => ?_, fun c2 => ?_⟩
      · have : ¬ (qFv pl v i = s ∧ cp i = want v s) := fun z => c2 z.2
        simpa [qAb, this] using ihs
      · have : (qFv pl v i = s ∧ cp i = want v s) := ⟨c, c2⟩
        rw [nI_shl1 _ (by omega), fa_or]
        have e : qAb pl want cp v s (i + 1) = qAb pl want cp v s i ||| 2 ^ i := by
          show (if _ then _ else _) = _
          rw [if_pos this]
        rw [e] at ihs
        exact ihs
theorem k_mCanKeep {P : jM → Bool → Prop} (hp : mPl (M.1 5) pl) (hs : mSi M pl ask want) (hc : mCp M pl cp) (hle : ∀ v, v < qn pl → ask.testBit v = true → ∀ c, c < qc pl → cp c ≤ want v (qFv pl v c)) (h : ∀ M', jsame (fun q => q = 0) M M' → M'.2 = M.2 → (∀ k, k < 3 → M'.1 0 (33 + k) = qBar pl ask want cp k) → (∀ k, (k < 33 ∨ 36 ≤ k) → M'.1 0 k = M.1 0 k) → P M' (qCan pl ask want cp)) : JC x jtbM mX12_canKeep (d + 2) [.ref (x.2.2.2 0)] M (jZ P) := by
  have h25 := hp.wf.c25
  have h6 := hp.wf.2.2.2.1
  have m1 : (-1 : Int32) < 0 := by decide
  refine b_X12_canKeep ?_
  rintro M1 rfl M2 rfl M3 e3
  have r0 : ∀ k, M3.1 0 k = if k = 35 then -1 else if k = 34 then -1 else if k = 33 then -1 else M.1 0 k := by
    intro k
    rw [e3]
    simp only [jrI_s, upd]
  have r1 : ∀ q, q ≠ 0 → M3.1 q = M.1 q := fun q hq => by rw [e3, jrI_n hq, jrI_n hq, jrI_n hq]
  have r2 : M3.2 = M.2 := by rw [e3]; rfl
  clear e3
  have hp3 : mPl (M3.1 5) pl := by rw [r1 5 (by omega)]; exact hp
  have hs3 : mSi M3 pl ask want := by unfold mSi; rw [r1 7 (by omega), r1 8 (by omega)]; exact hs
  have hc3 : mCp M3 pl cp := by unfold mCp; rw [r1 9 (by omega)]; exact hc
  -- once a cell is barred
  refine jloop (fun i (M' : jM) => JW x jtbM mX12_canKeep (d + 2) (jZ P) 17 [(0, .ref (x.2.2.2 0)), (1, .int (nI i))] [] M') (fun i M' => (M' = M3 ∧ ∀ c, c < i → decide (cp c < qLeast pl c) = false) ∨ (0 < i ∧ M' = jrI M3 0 (upd (M3.1 0) 33 (nI (i - 1))) ∧ qBc pl cp = i - 1 ∧ i - 1 < qc pl)) (qc pl) ?_ ?_ 0 M3 (Nat.zero_le _) (Or.inl ⟨rfl, fun c hc => absurd hc (Nat.not_lt_zero _)⟩)
  · rintro M4 (⟨rfl, hI⟩ | ⟨hi0, rfl, hb, hbl⟩)
    · refine b_X12_canKeep_17 (k_mCells hp3 (pk_le (qc pl) (qc pl) (fun _ => ⟨fun _ => ?_, fun z => absurd (by rw [r0]; simp) z⟩) (fun c => absurd c (by omega))))
      have eb : qBc pl cp = qc pl := qFst_no hI
      refine jloop (fun i (_ : Unit) => JW x jtbM mX12_canKeep (d + 2) (jZ P) 72 [(0, .ref (x.2.2.2 0)), (1, .int (nI i))] [] M4) (fun i _ => ∀ v, v < i → (ask.testBit v && decide (qBs pl want cp v < qSt pl v)) = false) (qn pl) ?_ ?_ 0 () (Nat.zero_le _) (fun j hj => absurd hj (Nat.not_lt_zero _))
      · rintro _ hJ
        refine b_X12_canKeep_72 ?_
        rw [hp3.n]
        refine pk_le (qn pl) (qn pl) (fun _ => ?_) (fun c => absurd c (by omega))
        have ev : qBv pl ask want cp = qn pl := qFst_no hJ
        have := h M4 (fun q hq => ⟨r1 q hq, by rw [r2]⟩) r2 (fun k hk => by
          rw [r0]
          rcases (show k = 0 ∨ k = 1 ∨ k = 2 by omega) with rfl | rfl | rfl <;> simp [qBar, eb, ev]) (fun k hk => by rw [r0, if_neg (by omega), if_neg (by omega), if_neg (by omega)])
        simpa [qCan, eb, ev] using this
      · rintro v _ hv hJ ihv
        refine b_X12_canKeep_72 ?_
        rw [hp3.n]
        refine pk_le (qn pl) v (fun c => absurd c (by omega)) (fun _ => ?_)
        have h9 := qSt_le hp.wf v
        by_cases ha : ask.testBit v = true
        · refine jloop (fun s (_ : Unit) => JW x jtbM mX12_canKeep (d + 2) (jZ P) 84 [(0, .ref (x.2.2.2 0)), (1, .int (nI v)), (2, .int (nI s))] [] M4) (fun s _ => ∀ s', s' < s → decide (¬ qG (qw pl) (qh pl) (qSide pl v) s' cp (qc pl) = want v s') = false) (qSt pl v) ?_ ?_ 0 () (Nat.zero_le _) (fun j hj => absurd hj (Nat.not_lt_zero _))
          · rintro _ hK
            refine b_X12_canKeep_84 (k_mStrips hp3 hv (pk_le (qSt pl v) (qSt pl v) (fun _ => ?_) (fun c => absurd c (by omega))))
            rw [nI_1]
            refine ihv () (fun j hj => ?_)
            rcases Nat.lt_or_ge j v with q | q
            · exact hJ j q
            · obtain rfl : j = v := by omega
              have : qBs pl want cp j = qSt pl j := qFst_no hK
              rw [decide_eq_false (by omega), Bool.and_false]
          · rintro s _ hst hK ihs
            refine b_X12_canKeep_84 (k_mStrips hp3 hv (pk_le (qSt pl v) s (fun c => absurd c (by omega)) (fun _ => ⟨v, by omega, rfl, ?_⟩)))
            rw [hs3.1 v hv, ha]
            refine ⟨fun z => absurd z (by decide), fun _ => k_mAbleIn hp3 hs3 hc3 hv ha hst ?_⟩
            have hA := qAb_lt (pl := pl) (want := want) (cp := cp) (v := v) (s := s) (qc pl)
            have h2 : 2 ^ qc pl ≤ 2 ^ 25 := Nat.pow_le_pow_right (by decide) h25
            have hiff := able_iff hp.wf hv hst (hle v hv ha)
            rw [show (nI (qAb pl want cp v s (qc pl)) = 0) = (qAb pl want cp v s (qc pl) = 0) from propext (nI_eq (b := 0) (by omega) (by omega)), hiff]
            refine ⟨fun z => ?_, fun z => ?_⟩
            · rintro M5 rfl M6 rfl
              have es : qBs pl want cp v = s := qFst_at hK (decide_eq_true z) hst
              have ev : qBv pl ask want cp = v := qFst_at hJ (by rw [ha, decide_eq_true (by omega)]; rfl) hv
              have e0 : ¬ qBc pl cp < qc pl := by omega
              have := h (jrI (jrI M4 0 (upd (M4.1 0) 34 (nI v))) 0 (upd ((jrI M4 0 (upd (M4.1 0) 34 (nI v))).1 0) 35 (nI s))) (fun q hq => ⟨by rw [jrI_n hq, jrI_n hq]; exact r1 q hq, by show M4.2 q = _; rw [r2]⟩) r2 (fun k hk => by
                simp only [jrI_s, upd]
                rcases (show k = 0 ∨ k = 1 ∨ k = 2 by omega) with rfl | rfl | rfl <;> simp [qBar, e0, ev, hv, es, r0]) (fun k hk => by
                simp only [jrI_s, upd]
                rw [if_neg (by omega), if_neg (by omega), r0, if_neg (by omega), if_neg (by omega), if_neg (by omega)])
              simpa [qCan, eb, ev, hv] using this
            · rw [nI_1]
              refine ihs () (fun j hj => ?_)
              rcases Nat.lt_or_ge j s with q | q
              · exact hK j q
              · obtain rfl : j = s := by omega
                exact decide_eq_false z
        · have ha' : ask.testBit v = false := by revert ha; cases ask.testBit v <;> simp
          have hst : 0 < qSt pl v := by
            obtain ⟨w1, w2, w3⟩ := qn_pos hp.wf hv
            unfold qSt qS
            split
            · omega
            · split <;> omega
          refine b_X12_canKeep_84 (k_mStrips hp3 hv (pk_le (qSt pl v) 0 (fun c => absurd c (by omega)) (fun _ => ⟨v, by omega, rfl, ?_⟩)))
          rw [hs3.1 v hv, ha']
          refine ⟨fun _ => ?_, fun z => absurd rfl z⟩
          rw [nI_1]
          refine ihv () (fun j hj => ?_)
          rcases Nat.lt_or_ge j v with q | q
          · exact hJ j q
          · obtain rfl : j = v := by omega
            rw [ha']; rfl
    · have hp4 : mPl ((jrI M3 0 (upd (M3.1 0) 33 (nI (qc pl - 1)))).1 5) pl := by rw [jrI_n (by omega)]; exact hp3
      have v33 : (jrI M3 0 (upd (M3.1 0) 33 (nI (qc pl - 1)))).1 0 33 = nI (qc pl - 1) := by rw [jrI_s, pk_us]
      refine b_X12_canKeep_17 (k_mCells hp4 (pk_le (qc pl) (qc pl) (fun _ => ?_) (fun c => absurd c (by omega))))
      rw [v33]
      refine ⟨fun z => absurd z (nI_pos (by omega)), fun _ => ?_⟩
      have := h (jrI M3 0 (upd (M3.1 0) 33 (nI (qc pl - 1)))) (fun q hq => ⟨by rw [jrI_n hq]; exact r1 q hq, by show M3.2 q = _; rw [r2]⟩) r2 (fun k hk => by
        simp only [jrI_s, upd]
        rcases (show k = 0 ∨ k = 1 ∨ k = 2 by omega) with rfl | rfl | rfl <;> simp [qBar, hb, hbl, r0]) (fun k hk => by
        simp only [jrI_s, upd]
        rw [if_neg (by omega), r0, if_neg (by omega), if_neg (by omega), if_neg (by omega)])
      simpa [qCan, hb, hbl] using this
  · rintro i M4 hi hI ih
    rcases hI with ⟨rfl, hI⟩ | ⟨hi0, rfl, hb, hbl⟩
    · refine b_X12_canKeep_17 (k_mCells hp3 (pk_le (qc pl) i (fun c => absurd c (by omega)) (fun _ => ?_)))
      have v33 : M4.1 0 33 = -1 := by rw [r0]; simp
      rw [v33]
      refine ⟨fun z => absurd z (by decide), fun _ => ⟨i, by omega, rfl, 28 + i, by omega, by rw [jn28, nI_add], ?_⟩⟩
      rw [hp3.least (by omega), hc3.1 i hi, nI_1]
      have q1 := hc.2 i
      have q2 := hp.wf.2.2.2.2.2.2.2.1 i
      refine pk_le (qLeast pl i) (cp i) (fun c => ih M4 (Or.inl ⟨rfl, fun j hj => ?_⟩)) (fun c => ?_)
      · rcases Nat.lt_or_ge j i with q | q
        · exact hI j q
        · obtain rfl : j = i := by omega
          exact decide_eq_false (by omega)
      · rintro M5 rfl
        have e : qBc pl cp = i := qFst_at hI (decide_eq_true c) hi
        exact ih _ (Or.inr ⟨by omega, by simp, by simp [e], by omega⟩)
    · have hp4 : mPl ((jrI M3 0 (upd (M3.1 0) 33 (nI (i - 1)))).1 5) pl := by rw [jrI_n (by omega)]; exact hp3
      have v33 : (jrI M3 0 (upd (M3.1 0) 33 (nI (i - 1)))).1 0 33 = nI (i - 1) := by rw [jrI_s, pk_us]
      refine b_X12_canKeep_17 (k_mCells hp4 (pk_le (qc pl) i (fun c => absurd c (by omega)) (fun _ => ?_)))
      rw [v33]
      refine ⟨fun _ => ⟨fun z => absurd z (nI_pos (by omega)), fun _ => ?_⟩, fun z => absurd (nI_pos' (by omega)) z⟩
      have := h (jrI M3 0 (upd (M3.1 0) 33 (nI (i - 1)))) (fun q hq => ⟨by rw [jrI_n hq]; exact r1 q hq, by show M3.2 q = _; rw [r2]⟩) r2 (fun k hk => by
        simp only [jrI_s, upd]
        rcases (show k = 0 ∨ k = 1 ∨ k = 2 by omega) with rfl | rfl | rfl <;> simp [qBar, hb, hbl, r0]) (fun k hk => by
        simp only [jrI_s, upd]
        rw [if_neg (by omega), r0, if_neg (by omega), if_neg (by omega), if_neg (by omega)])
      simpa [qCan, hb, hbl] using this
end KMW
