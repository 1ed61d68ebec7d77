/-! orders, on the class's side -/
section OOR
variable {x : jX} {d : Nat} {M : jM} {z : qZ}
theorem o_orders {P : jM → Int32 → Prop} {a : Int32} (h : cI M z) (hP : ∀ M', cI M' (sOrders z a (fun r j => M.1 (18 + r) j)).1 → P M' (sOrders z a (fun r j => M.1 (18 + r) j)).2) : JC x jtbC mX11_orders (d + 7) [.ref (x.2.2.2 0), .int a] M (jI P) := by
  obtain ⟨t9, trng, -⟩ := id h.ok
  have e14 : M.1 0 14 = nI (zTp z).1 := h.2.2.2.2.1
  have tx : ∀ k, k < (zTp z).1 → M.1 2 k = (zTp z).2 k := h.2.2.2.2.2.1
  have wds : ∀ k, k < 26 → M.2 26 k = qWord k := fun k hk => (h.2.2.2.2.2.2.2.2.2.2.2.2.2.2.1 k hk).2
  unfold sOrders at hP
  have z0 : (0 : Int32).toInt = 0 := by decide
  have z3 : (300 : Int32).toInt = 300 := by decide
  refine b_X11_orders (d := d + 6) ?_
  rw [e14, Int32.lt_iff_toInt_lt, Int32.lt_iff_toInt_lt, Int32.le_iff_toInt_le, z0, nI_toInt (by omega), z3]
  refine ⟨fun c => ?_, fun c => ⟨fun c2 => ?_, fun c2 => ⟨fun c3 => ?_, fun c3 => ?_⟩⟩⟩
  · rw [decide_eq_false (by omega)] at hP; exact c_refused h hP
  · rw [decide_eq_false (by omega)] at hP; exact c_refused h hP
  · rw [decide_eq_true ⟨by omega, by omega, c3⟩, if_pos rfl] at hP
    obtain ⟨n, nl, rfl⟩ : ∃ n, n ≤ (zTp z).1 ∧ a = nI n := ⟨a.toInt.toNat, by omega, Int32.toInt_inj.mp (by rw [nI_toInt (by omega)]; omega)⟩
    rw [nI_clamp (by omega)] at hP
    intro M2 e2
    have h2 : cI M2 (uTp z (0, (zTp z).2)) := h.setTp (n := 0) (f := (zTp z).2) (by rw [e2]; exact jsame.I (Or.inl rfl)) (fun k hk => by rw [e2, jrI_s, pk_un hk]) (by rw [e2, jrI_s, pk_us]; rfl) (by omega) (fun k hk => absurd hk (Nat.not_lt_zero _)) trng
    have r2 : M2.1 2 = M.1 2 := by rw [e2, jrI_n (by omega)]
    have eg : (fun r j => M2.1 (18 + r) j) = fun r j => M.1 (18 + r) j := by funext r j; rw [e2, jrI_n (by omega)]
    refine k_readOrders (pl := zP z) (f := (zTp z).2) (by omega) (fun k hk => by rw [r2]; exact tx k (by omega)) (fun k hk => by rw [e2]; exact wds k hk) h2.pl (fun M3 st e s1 p3 w z6 z7 => ?_) (fun M3 er e s1 z6 z7 => ?_)
    · rw [eg] at e
      have ok := qOrd_ok e
      rw [e] at hP
      dsimp only at hP
      have h3 : cI M3 (uTp z (0, (zTp z).2)) := h2.scr (s1.mono (fun q hq => by unfold cOf at hq; unfold cScr; omega))
      refine k_tellFault (e := (0, -1)) (Or.inr rfl) h3 z6 z7 (fun M4 s4 h4 => ⟨fun _ => ?_, fun u => (by cases u)⟩)
      have p4 : cOr M4 17 (oMk st) := p3.keep (fun q q1 q2 => (s4 q (by omega)).1)
      refine k_copyOr (d := d + 5) atC3_40 atC3_17 p4 (by omega) (fun M5 s5 w5 => ?_)
      obtain ⟨g1, g2, g3, g4⟩ := h4.nw
      have h5 : cI M5 (uNw (uFa (uTp z (0, (zTp z).2)) (0, -1)) (zP z, zT z, oMk st)) := h4.setNw (s5.mono (fun q hq => by omega)) ⟨g1.keep (fun q q1 q2 => (s5 q (by omega)).1) (by rw [(s5 _ (by omega)).2]), fun c hc => by rw [(s5 39 (by omega)).1]; exact g2 c hc, g3, w5⟩ ok
      rw [show M5.1 40 1 = nI st.2.2.1 from w5.2.2.1]
      exact c_answered h5 hP
    · rw [eg] at e
      rw [e] at hP
      dsimp only at hP
      have h3 : cI M3 (uTp z (0, (zTp z).2)) := h2.scr (s1.mono (fun q hq => by unfold cOf at hq; unfold cScr; omega))
      exact k_tellFault (Or.inr rfl) h3 z6 z7 (fun M4 s4 h4 => ⟨fun u => (by cases u), fun _ => c_refused h4 hP⟩)
  · rw [decide_eq_false (by omega)] at hP; exact c_refused h hP
end OOR
