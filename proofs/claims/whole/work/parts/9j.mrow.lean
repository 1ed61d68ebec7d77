/-! the model's rows of numbers, cells, villages -/
/-- what the model stands at behind a part: its semicolon, or a fault, or a token that will be one -/
def rEnd {α : Type} (M : jM) (f : Nat → Int32) (n : Nat) (r : qE (Nat × α)) (Q : α → Prop) : Prop := match r with
  | .inl e => mBd M e ∨ ∃ t, mRt M f n t ∧ M.1 0 12 = 0 ∧ ¬ (yK f n t = 4 ∧ yG f n t = 59) ∧ e = yF f n t 2
  | .inr p => ∃ t, yX f n t = p.1 ∧ (yK f n t = 4 ∧ yG f n t = 59) ∧ mRt M f n t ∧ M.1 0 12 = 0 ∧ Q p.2
theorem rEnd_map {α β : Type} {M : jM} {f : Nat → Int32} {n : Nat} {r : qE (Nat × α)} {g : α → β} {Q : β → Prop} (h : rEnd M f n r (fun v => Q (g v))) : rEnd M f n (rMap r g) Q := by
  cases r with
  | inl e => exact h
  | inr p => exact h
theorem rEnd.mono {α : Type} {M : jM} {f : Nat → Int32} {n : Nat} {r : qE (Nat × α)} {Q Q' : α → Prop} (h : rEnd M f n r Q) (hq : ∀ p, r = .inr p → Q p.2 → Q' p.2) : rEnd M f n r Q' := by
  cases r with
  | inl e => exact h
  | inr p =>
    obtain ⟨t, h1, h2, h3, h4, h5⟩ := h
    exact ⟨t, h1, h2, h3, h4, hq p rfl h5⟩
/-- what stays beside the new plain -/
def mYq (M M' : jM) : Prop := mSame M M' ∧ M'.2 6 = M.2 6 ∧ ∀ k, 19 ≤ k → k ≤ 21 → M'.1 0 k = M.1 0 k
theorem mYq.rf {M : jM} : mYq M M := ⟨mSame.rf, rfl, fun _ _ _ => rfl⟩
theorem mYq.tr {M M' M'' : jM} (h : mYq M M') (h2 : mYq M' M'') : mYq M M'' := ⟨h.1.tr h2.1, h2.2.1.trans h.2.1, fun k k1 k2 => (h2.2.2 k k1 k2).trans (h.2.2 k k1 k2)⟩
theorem mKp.sd {M M' : jM} (h : mKp M M') : mYq M M' := ⟨h.same, (h.1 6 (by omega)).2, fun k k1 k2 => h.2.1 k (by omega)⟩
theorem mKp.r5 {M M' : jM} (h : mKp M M') : M'.1 5 = M.1 5 := (h.1 5 (by omega)).1
theorem mKp.ok {M M' : jM} (h : mKp M M') (h0 : M.1 0 12 = 0) : M'.1 0 12 = 0 := by rw [h.2.1 12 (by omega)]; exact h0
/-- a place of row 5 behind the blocks is set -/
theorem mYq.put {M : jM} {j : Nat} {v : Int32} (hj : 1648 ≤ j) : mYq M (jrI M 5 (upd (M.1 5) j v)) := ⟨⟨fun q _ _ q5 _ => ⟨jrI_n q5, rfl⟩, fun _ _ => by rw [jrI_n (by omega)], fun _ _ => rfl, fun k hk => by rw [jrI_s, pk_un (by omega)], fun _ _ => rfl⟩, rfl, fun _ _ _ => by rw [jrI_n (by omega)]⟩
theorem mRt.put {M : jM} {f : Nat → Int32} {n a : Nat} {j : Nat} {v : Int32} (h : mRt M f n a) : mRt (jrI M 5 (upd (M.1 5) j v)) f n a := by
  have e : ∀ q, q ≠ 5 → (jrI M 5 (upd (M.1 5) j v)).1 q = M.1 q := fun q hq => jrI_n hq
  obtain ⟨⟨t1, t2, t3, t4⟩, ⟨r1, r2, r3, r4, r5, r6⟩, le⟩ := h
  refine ⟨⟨t1, fun k hk => by rw [e 4 (by omega)]; exact t2 k hk, t3, by rw [e 0 (by omega)]; exact t4⟩, ⟨by rw [e 0 (by omega)]; exact r1, by rw [e 0 (by omega)]; exact r2, by rw [e 0 (by omega)]; exact r3, fun u => by rw [e 0 (by omega)]; exact r4 u, fun u => by rw [e 0 (by omega)]; exact r5 u, fun u => ⟨(r6 u).1, by rw [e 0 (by omega)]; exact (r6 u).2⟩⟩, le⟩
section MRW
variable {x : jX} {d : Nat} {M : jM} {f : Nat → Int32} {n : Nat}
theorem m_readRow {P : jM → Prop} {a lo frm R B : Nat} {g : Nat → Nat} (hlo : lo ≤ 99) (hR : 1 ≤ R) (hB : 1648 ≤ B) (hB2 : B + frm + R ≤ 2060) (h0 : M.1 0 12 = 0) (hr : mRt M f n a)
    (h : ∀ M', mSame M M' → rEnd M' f n (rRow f n lo frm R (yX f n a) 0 g) (fun g' => (∀ k, frm ≤ k → k < frm + R → M'.1 5 (B + k) = nI (g' k)) ∧ (∀ k, (k < B + frm ∨ B + frm + R ≤ k) → M'.1 5 k = M.1 5 k) ∧ mYq M M') → P M') : JC x jtbM mX12_readRow (d + 2) [.ref (x.2.2.2 0), .int (nI (B + frm)), .int (nI R), .int (nI lo), .int (nI 99)] M (jV P) := by
  refine b_X12_readRow (d := d + 1) (m_go hr (fun M1 k1 r1 => ?_))
  -- with a fault, it ends
  have bad89 : ∀ M2 e cnt, mFl M M2 e → P M2 → JW x jtbM mX12_readRow (d + 2) (jV P) 89 [(0, .ref (x.2.2.2 0)), (1, .int (nI (B + frm))), (2, .int (nI R)), (3, .int (nI lo)), (4, .int (nI 99)), (5, .int (nI cnt))] [] M2 := fun M2 e cnt b p => b_X12_readRow_89 ⟨fun c => absurd c b.2.le, fun _ => p⟩
  have bad66 : ∀ M2 e cnt, mFl M M2 e → P M2 → JW x jtbM mX12_readRow (d + 2) (jV P) 66 [(0, .ref (x.2.2.2 0)), (1, .int (nI (B + frm))), (2, .int (nI R)), (3, .int (nI lo)), (4, .int (nI 99)), (5, .int (nI cnt))] [] M2 := fun M2 e cnt b p => b_X12_readRow_66 ⟨fun _ => bad89 M2 e cnt b p, fun c => absurd c b.2.ne⟩
  have bad34 : ∀ M2 e cnt, mFl M M2 e → P M2 → JW x jtbM mX12_readRow (d + 2) (jV P) 34 [(0, .ref (x.2.2.2 0)), (1, .int (nI (B + frm))), (2, .int (nI R)), (3, .int (nI lo)), (4, .int (nI 99)), (5, .int (nI cnt))] [] M2 := fun M2 e cnt b p => b_X12_readRow_34 ⟨fun _ => bad66 M2 e cnt b p, fun c => absurd c b.2.ne⟩
  have main : ∀ r t cnt (gg : Nat → Nat) M2 (l6 : Int32), cnt + r = R → mYq M M2 → (∀ k, frm ≤ k → k < frm + cnt → M2.1 5 (B + k) = nI (gg k)) → (∀ k, (k < B + frm ∨ B + frm + R ≤ k) → M2.1 5 k = M.1 5 k) → mRt M2 f n t → M2.1 0 12 = 0 → rRow f n lo frm r t cnt gg = rRow f n lo frm R (yX f n a) 0 g → (l6 = 0 ↔ ¬ (cnt = 0 ∨ yK f n t = 3)) → JW x jtbM mX12_readRow (d + 2) (jV P) 10 [(0, .ref (x.2.2.2 0)), (1, .int (nI (B + frm))), (2, .int (nI R)), (3, .int (nI lo)), (4, .int (nI 99)), (5, .int (nI cnt)), (6, .int l6)] [] M2 := by
    intro r
    induction r with
    | zero =>
      intro t cnt gg M2 l6 hc s g1 g2 r2 ok he hl
      rw [rRow] at he
      have c0 : ¬ cnt = 0 := by omega
      refine b_X12_readRow_10 ⟨fun z => b_X12_readRow_135 ⟨fun u => absurd ok u, fun _ => m_isSign r2.2.1 ⟨fun ns => ?_, fun ys => ?_⟩⟩, fun z => ⟨fun u => absurd ok u, fun _ => ?_⟩⟩
      · have k3 : ¬ yK f n t = 3 := fun u => hl.mp z (Or.inr u)
        have ns' := of_decide_eq_false ns
        rw [if_neg k3, if_neg ns'] at he
        refine h M2 s.1 ?_
        rw [← he]
        exact Or.inr ⟨t, r2, ok, ns', rfl⟩
      · have k3 : ¬ yK f n t = 3 := fun u => hl.mp z (Or.inr u)
        have ys' := of_decide_eq_true ys
        rw [if_neg k3, if_pos ys'] at he
        refine pk_le R cnt (fun _ => h M2 s.1 ?_) (fun u => absurd u (by omega))
        rw [← he]
        exact ⟨t, rfl, ys', r2, ok, fun k k1 k2 => g1 k k1 (by omega), g2, s⟩
      · have k3 : yK f n t = 3 := by
          by_cases u : yK f n t = 3
          · exact u
          · exact absurd (hl.mpr (by omega)) z
        rw [if_pos k3] at he
        have vl := yN_lt (f := f) (n := n) (a := t) k3
        rw [show (2 : Int32) = nI 2 from rfl, r2.2.1.kind (by omega), mkK_is (by omega) (by omega)]
        refine ⟨fun _ => b_X12_readRow_34 ⟨fun u => absurd ok u, fun _ => ?_⟩, fun u => absurd k3 u⟩
        rw [r2.2.1.2.2.2.1 k3]
        refine m_inN (by omega) (by omega) (by omega) ⟨fun y => ?_, fun y => ?_⟩
        · rw [if_pos (of_decide_eq_true y)] at he
          refine b_X12_readRow_66 ⟨fun u => absurd ok u, fun _ => ?_⟩
          rw [show cnt = R by omega]
          refine ⟨fun u => absurd rfl u, fun _ => m_failAt ok r2.2.1 (by decide) (by omega) (fun M3 b => bad89 M3 _ R ⟨s.1.tr b.1, b.2⟩ (h M3 (s.1.tr b.1) ?_))⟩
          rw [← he]
          exact Or.inl b.2
        · rw [if_neg (of_decide_eq_false y)] at he
          refine m_failAt ok r2.2.1 (by decide) (by omega) (fun M3 b => bad66 M3 _ cnt ⟨s.1.tr b.1, b.2⟩ (h M3 (s.1.tr b.1) ?_))
          rw [← he]
          exact Or.inl b.2
    | succ r ih =>
      intro t cnt gg M2 l6 hc s g1 g2 r2 ok he hl
      rw [rRow] at he
      refine b_X12_readRow_10 ⟨fun z => b_X12_readRow_135 ⟨fun u => absurd ok u, fun _ => m_isSign r2.2.1 ⟨fun ns => ?_, fun ys => ?_⟩⟩, fun z => ⟨fun u => absurd ok u, fun _ => ?_⟩⟩
      · have k3 := hl.mp z
        have ns' := of_decide_eq_false ns
        rw [if_neg k3, if_neg ns'] at he
        refine h M2 s.1 ?_
        rw [← he]
        exact Or.inr ⟨t, r2, ok, ns', rfl⟩
      · have k3 := hl.mp z
        have ys' := of_decide_eq_true ys
        rw [if_neg k3, if_pos ys'] at he
        refine pk_le R cnt (fun u => absurd u (by omega)) (fun _ => m_failAt ok r2.2.1 (by decide) (by omega) (fun M3 b => h M3 (s.1.tr b.1) ?_))
        rw [← he]
        exact Or.inl b.2
      · have k3 : cnt = 0 ∨ yK f n t = 3 := by
          by_cases u : cnt = 0 ∨ yK f n t = 3
          · exact u
          · exact absurd (hl.mpr u) z
        rw [if_pos k3] at he
        rw [show (2 : Int32) = nI 2 from rfl, r2.2.1.kind (by omega), mkK_is (by omega) (by omega)]
        refine ⟨fun y3 => b_X12_readRow_34 ⟨fun u => absurd ok u, fun _ => ?_⟩, fun n3 => ?_⟩
        · have y3' : yK f n t = 3 := y3
          have vl := yN_lt (f := f) (n := n) (a := t) y3'
          rw [if_pos y3'] at he
          rw [r2.2.1.2.2.2.1 y3']
          refine m_inN (by omega) (by omega) (by omega) ⟨fun y => ?_, fun y => ?_⟩
          · rw [if_pos (of_decide_eq_true y)] at he
            refine b_X12_readRow_66 ⟨fun u => absurd ok u, fun _ => ?_⟩
            rw [nI_eq (by omega) (by omega)]
            refine ⟨fun _ => b_X12_readRow_89 ⟨fun _ => ⟨B + frm + cnt, by omega, by rw [nI_add], fun M3 e3 => ?_⟩, fun u => absurd (by rw [ok]; decide) u⟩, fun u => absurd u (by omega)⟩
            rw [r2.2.1.2.2.2.1 y3'] at e3
            have r3 : mRt M3 f n t := by rw [e3]; exact r2.put
            have s3 : mYq M M3 := by rw [e3]; exact s.tr (mYq.put (by omega))
            have ok3 : M3.1 0 12 = 0 := by rw [e3, jrI_n (by omega)]; exact ok
            refine m_go r3 (fun M4 k4 r4 => ?_)
            have go : ∀ l6 : Int32, (l6 = 0 ↔ ¬ (cnt + 1 = 0 ∨ yK f n (yX f n t) = 3)) → JW x jtbM mX12_readRow (d + 2) (jV P) 10 [(0, .ref (x.2.2.2 0)), (1, .int (nI (B + frm))), (2, .int (nI R)), (3, .int (nI lo)), (4, .int (nI 99)), (5, .int (nI cnt + 1)), (6, .int l6)] [] M4 := fun l6 hl6 => by
              rw [nI_1]
              refine ih (yX f n t) (cnt + 1) _ M4 l6 (by omega) (s3.tr k4.sd) (fun k k1 k2 => ?_) (fun k hk => ?_) r4 (k4.ok ok3) he hl6
              · rw [k4.r5, e3, jrI_s]
                unfold tset
                by_cases e : k = frm + cnt
                · rw [if_pos e, show B + k = B + frm + cnt by omega, pk_us]
                · rw [if_neg e, pk_un (by omega)]; exact g1 k k1 (by omega)
              · rw [k4.r5, e3, jrI_s, pk_un (by omega)]; exact g2 k hk
            rw [show (2 : Int32) = nI 2 from rfl, r4.2.1.kind (by omega), mkK_is (by omega) (by omega)]
            refine ⟨fun u => go 0 ⟨fun _ v => ?_, fun _ => rfl⟩, fun u => go 1 ⟨fun v => absurd v (by decide), fun v => absurd (Or.inr u) v⟩⟩
            rcases v with v | v
            · omega
            · exact u v
          · rw [if_neg (of_decide_eq_false y)] at he
            refine m_failAt ok r2.2.1 (by decide) (by omega) (fun M3 b => bad66 M3 _ cnt ⟨s.1.tr b.1, b.2⟩ (h M3 (s.1.tr b.1) ?_))
            rw [← he]
            exact Or.inl b.2
        · have n3' : ¬ yK f n t = 3 := n3
          rw [if_neg n3'] at he
          refine m_wrong ok r2.2.1 (fun M3 b => bad34 M3 _ cnt ⟨s.1.tr b.1, b.2⟩ (h M3 (s.1.tr b.1) ?_))
          rw [← he]
          exact Or.inl b.2
  exact main R (yX f n a) 0 g M1 1 (by omega) k1.sd (fun k h1 h2 => by omega) (fun k _ => by rw [k1.r5]) r1 (k1.ok h0) rfl ⟨fun v => absurd v (by decide), fun v => absurd (Or.inl rfl) v⟩
end MRW
