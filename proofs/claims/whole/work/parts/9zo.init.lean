/-! the state at the start -/
def pl0 : qP := (fun _ => 0, fun _ _ => 0, fun _ => 0)
def w00 : qW := (pl0, fun _ => 0, (fun _ => 0, fun _ _ => 0))
def z00 : qZ := (0, (0, 1), (fun _ => (false, 0, 0, fun _ => 0)), (0, fun _ => 0), (-1, -1), w00, (0, fun _ => w00), (0, fun _ => 0), fun _ => -1)
def kM0 : jM := (fun q => if q = 13 then (fun k => if k = 9 then nI 15 else 0) else if q = 25 then (fun k => if k = 9 then nI 27 else 0) else if q = 74 then (fun _ => -1) else if q = 76 then (fun _ => -1) else (fun _ => 0), fun q => if q = 14 then qWord else if q = 26 then qWord else if q = 75 then (fun k => if k = 0 then 0 else 1) else (fun _ => 0))
def kN0 : jM := (fun q => if q = 0 then (fun k => if k = 10 then -1 else if k = 11 then -1 else 0) else if q = 2 then (fun _ => -1) else (fun _ => 0), fun q => if q = 0 then (fun k => if k = 3 then 1 else 0) else (fun _ => 0))
theorem kM0_z : ∀ q, kOrd q → kM0.1 q = (fun _ => 0) ∧ kM0.2 q = (fun _ => 0) := by
  rintro q ⟨h1, h2, h3, h4, h5, h6, h7⟩
  constructor
  · show (if q = 13 then _ else if q = 25 then _ else if q = 74 then _ else if q = 76 then _ else _) = _
    rw [if_neg h1, if_neg h3, if_neg h5, if_neg h7]
  · show (if q = 14 then _ else if q = 26 then _ else if q = 75 then _ else _) = _
    rw [if_neg h2, if_neg h4, if_neg h6]
theorem kN0_z : ∀ q, q ≠ 0 → q ≠ 2 → kN0.1 q = (fun _ => 0) ∧ kN0.2 q = (fun _ => 0) := by
  intro q h1 h2
  constructor
  · show (if q = 0 then _ else if q = 2 then _ else _) = _
    rw [if_neg h1, if_neg h2]
  · show (if q = 0 then _ else _) = _
    rw [if_neg h1]
theorem pl0_wf : qWf pl0 := ⟨by decide, by decide, Iff.rfl, by decide, by decide, fun _ => rfl, fun _ => Nat.zero_le _, fun _ => Nat.zero_le _, fun _ => Nat.zero_le _, fun _ => by show 0 < 8; decide, fun _ _ => Nat.zero_le _⟩
theorem z00_ok : zOk z00 := ⟨by decide, fun _ => by show -128 ≤ (0 : Int32).toInt ∧ (0 : Int32).toInt < 128; decide, fun h => absurd h (by decide), by decide, fun m h => absurd h (by show ¬ m < 0; omega), by decide, fun _ => by show 0 < 25; decide⟩
theorem c_start : cI kM0 z00 := by
  have z := kM0_z
  have zi : ∀ q k, kOrd q → kM0.1 q k = nI 0 := fun q k h => by rw [(z q h).1]; rfl
  have n0 : ∀ {k : Nat} {P : Prop}, k < 0 → P := fun h => absurd h (Nat.not_lt_zero _)
  refine ⟨rfl, rfl, rfl, fun t ht => ⟨zi _ _ (by unfold kOrd; omega), zi _ _ (by unfold kOrd; omega), zi _ _ (by unfold kOrd; omega), Nat.zero_le _, Nat.zero_le _, fun k hk => n0 hk⟩, zi _ _ (by unfold kOrd; omega), fun k hk => n0 hk, rfl, rfl, ?_, zi _ _ (by unfold kOrd; omega), fun m hm => n0 hm, zi _ _ (by unfold kOrd; omega), fun k hk => n0 hk, fun k hk => rfl, fun k hk => ⟨rfl, rfl⟩, z00_ok⟩
  refine ⟨⟨zi _ _ (by unfold kOrd; omega), zi _ _ (by unfold kOrd; omega), zi _ _ (by unfold kOrd; omega), zi _ _ (by unfold kOrd; omega), zi _ _ (by unfold kOrd; omega), fun c hc => zi _ _ (by unfold kOrd; omega), fun c hc => zi _ _ (by unfold kOrd; omega), fun c hc => zi _ _ (by unfold kOrd; omega), fun v hv => n0 hv, fun v hv => n0 hv, fun v s hv => n0 hv, fun side c hs hc => n0 hc, pl0_wf⟩, fun c hc => zi _ _ (by unfold kOrd; omega), fun _ => Nat.zero_le _, zi _ _ (by unfold kOrd; omega), Or.inl rfl, zi _ _ (by unfold kOrd; omega), zi _ _ (by unfold kOrd; omega), 0, by decide, rfl, fun r hr a ha => n0 ha⟩
theorem m_start : mI kN0 z00 := by
  have z := kN0_z
  have zi : ∀ k, kN0.1 5 k = nI 0 := fun k => by rw [(z 5 (by decide) (by decide)).1]; rfl
  have n0 : ∀ {k : Nat} {P : Prop}, k < 0 → P := fun h => absurd h (Nat.not_lt_zero _)
  refine ⟨rfl, rfl, rfl, fun t ht => ⟨rfl, (fun h => by cases h), (fun h => by cases h), Nat.zero_le _, Nat.zero_le _⟩, rfl, fun k hk => n0 hk, rfl, rfl, ?_, rfl, fun m hm => n0 hm, rfl, fun k hk => n0 hk, Or.inl ⟨rfl, fun k hk => rfl⟩, z00_ok⟩
  exact ⟨⟨zi _, zi _, zi _, fun k hk => zi _, fun k hk => zi _, fun k hk => zi _, fun v hv => n0 hv, fun v hv => n0 hv, fun v s hv => n0 hv, pl0_wf⟩, fun v hv => n0 hv, ⟨fun k hk => n0 hk, fun _ => Nat.zero_le _⟩, zi _, Or.inl rfl, fun h => absurd h (by decide)⟩
