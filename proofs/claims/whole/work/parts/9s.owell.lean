/-! orders that were read are well formed -/
theorem qStp_congr {o o' : qO} : ∀ {n : Nat}, (∀ a, a < n → (o'.2 0 a = 16 ↔ o.2 0 a = 16)) → qStp o' n = qStp o n
  | 0, _ => rfl
  | n + 1, h => by
    show qStp o' n + _ = qStp o n + _
    rw [qStp_congr (fun a ha => h a (by omega))]
    by_cases e : o.2 0 n = 16
    · rw [if_pos e, if_pos ((h n (by omega)).mpr e)]
    · rw [if_neg e, if_neg (fun u => e ((h n (by omega)).mp u))]
theorem yK4_sign {f : Nat → Int32} {n a : Nat} (h : yK f n a = 4) : yG f n a = 59 ∨ yG f n a = 60 ∨ yG f n a = 61 ∨ yG f n a = 62 := by
  unfold yK at h
  split at h
  · omega
  · split at h
    · omega
    · split at h
      · split at h <;> omega
      · split at h
        · rename_i s
          exact of_decide_eq_true s
        · omega
/-- an act's fields, but for its partner -/
def oBd (pl : qP) (v : Nat → Int32) : Prop :=
  ((v 0 = 6 ∨ v 0 = 7) ∧ (∃ c, c < qc pl ∧ v 2 = nI c) ∧ oNm (v 5) 1 99) ∨ (v 0 = 9 ∧ oNm (v 5) 1 99) ∨ v 0 = 17 ∨ (v 0 = 15 ∧ oNm (v 5) 1 99) ∨
  (v 0 = 10 ∧ ((v 1 = 11 ∧ (∃ c, c < qc pl ∧ v 2 = nI c) ∧ oSg (v 4) ∧ oNm (v 5) 0 99) ∨ (v 1 = 5 ∧ (∃ u, u < qn pl ∧ v 2 = nI u) ∧ oNm (v 3) 0 8 ∧ oSg (v 4) ∧ oNm (v 5) 0 99) ∨ (v 1 = 13 ∧ ∃ u, u < qn pl ∧ v 2 = nI u) ∨ (v 1 = 14 ∧ oSg (v 4) ∧ oNm (v 5) 0 9999))) ∨ v 0 = 16
section OWL
variable {f : Nat → Int32} {n : Nat} {pl : qP}
theorem aSet_s {g : Nat → Int32} {k : Nat} {v : Int32} : aSet g k v k = v := if_pos rfl
theorem aSet_n {g : Nat → Int32} {k j : Nat} {v : Int32} (h : j ≠ k) : aSet g k v j = g j := if_neg h
theorem pNum_bd {a lo hi : Nat} {g : Nat → Int32} {p : Nat × (Nat → Int32)} (ha : a ≤ n) (h : pNum f n a lo hi g = .inr p) : oNm (p.2 5) lo hi ∧ ∀ k, k ≠ 5 → p.2 k = g k := by
  obtain ⟨v, h1, h2⟩ := rMap_ok h
  obtain ⟨o1, o2, o3, o4⟩ := tkN_ok ha h1
  rw [h2]
  exact ⟨⟨v, o3, o4, aSet_s⟩, fun k hk => aSet_n hk⟩
theorem pCell_bd {a : Nat} {g : Nat → Int32} {p : Nat × (Nat → Int32)} (ha : a ≤ n) (h : pCell f n a pl g = .inr p) : (∃ c, c < qc pl ∧ p.2 2 = nI c) ∧ ∀ k, k ≠ 2 → p.2 k = g k := by
  obtain ⟨a1, X, h1, h2⟩ := eB_ok h
  obtain ⟨o1, o2, o3⟩ := tkC_ok ha h1
  obtain ⟨Y, h3, h4⟩ := rMap_ok h2
  obtain ⟨o4, o5, o6⟩ := tkC_ok o2 h3
  rw [h4]
  refine ⟨⟨Y * qw pl + X, ?_, aSet_s⟩, fun k hk => aSet_n hk⟩
  have : (Y + 1) * qw pl ≤ qh pl * qw pl := Nat.mul_le_mul_right _ o6
  rw [Nat.add_mul, Nat.one_mul, Nat.mul_comm (qh pl)] at this
  show _ < qw pl * qh pl
  omega
theorem pName_bd {a : Nat} {g : Nat → Int32} {p : Nat × (Nat → Int32)} (h : pName f n a pl g = .inr p) : (∃ u, u < qn pl ∧ p.2 2 = nI u) ∧ ∀ k, k ≠ 2 → p.2 k = g k := by
  unfold pName at h
  split at h
  · split at h
    · rename_i q
      cases h
      exact ⟨⟨_, q, aSet_s (g := g) (k := 2)⟩, fun k hk => aSet_n hk⟩
    · cases h
  · cases h
theorem pAt_bd {a : Nat} {g : Nat → Int32} {p : Nat × (Nat → Int32)} (ha : a ≤ n) (h : pAt f n a g = .inr p) : oNm (p.2 3) 0 8 ∧ ∀ k, k ≠ 3 → p.2 k = g k := by
  unfold pAt at h
  split at h
  · obtain ⟨v, h1, h2⟩ := rMap_ok h
    obtain ⟨o1, o2, o3, o4⟩ := tkN_ok (yX_le ha) h1
    rw [h2]
    exact ⟨⟨v, o3, o4, aSet_s⟩, fun k hk => aSet_n hk⟩
  · cases h
theorem pCmp_bd {a : Nat} {g : Nat → Int32} {p : Nat × (Nat → Int32)} (h : pCmp f n a g = .inr p) : oSg (p.2 4) ∧ ∀ k, k ≠ 4 → p.2 k = g k := by
  unfold pCmp at h
  split at h
  · rename_i q
    cases h
    refine ⟨?_, fun k hk => aSet_n hk⟩
    show oSg (aSet g 4 (yG f n a) 4)
    rw [show aSet g 4 (yG f n a) 4 = yG f n a from aSet_s]
    have := yK4_sign q.1
    unfold oSg
    rcases this with u | u | u | u
    · exact absurd u q.2
    · exact Or.inl u
    · exact Or.inr (Or.inl u)
    · exact Or.inr (Or.inr u)
  · cases h
theorem pRest_bd {a k : Nat} {g : Nat → Int32} {p : Nat × (Nat → Int32)} (hk : k = 6 ∨ k = 7 ∨ k = 9 ∨ k = 10 ∨ k = 15 ∨ k = 17) (ha : a ≤ n) (g0 : g 0 = nI k) (h : pRest f n a pl k g = .inr p) : p.2 0 = nI k ∧ oBd pl p.2 := by
  have hx := yX_le (f := f) ha
  unfold pRest at h
  split at h
  · rename_i k67
    obtain ⟨a1, g1, h1, h2⟩ := eB_ok h
    obtain ⟨b1, b2⟩ := pCell_bd ha h1
    dsimp only at b1 b2
    obtain ⟨o1, o2⟩ := pCell_go ha _ h1
    have z0 : g1 0 = nI k := by rw [b2 0 (by omega)]; exact g0
    have out : oNm (p.2 5) 1 99 ∧ ∀ k, k ≠ 5 → p.2 k = g1 k := by
      unfold pBy at h2
      split at h2
      · obtain ⟨c1, c2⟩ := pNum_bd (yX_le o2) h2
        exact ⟨c1, fun k hk => by rw [c2 k hk]; exact aSet_n hk⟩
      · cases h2
        exact ⟨⟨1, by omega, by omega, aSet_s (g := g1) (k := 5)⟩, fun k hk => aSet_n hk⟩
    have z : p.2 0 = nI k := by rw [out.2 0 (by omega)]; exact z0
    refine ⟨z, Or.inl ⟨?_, by rw [out.2 2 (by omega)]; exact b1, out.1⟩⟩
    rw [z]
    rcases k67 with rfl | rfl
    · exact Or.inl rfl
    · exact Or.inr rfl
  · split at h
    · rename_i k915
      obtain ⟨c1, c2⟩ := pNum_bd ha h
      have z : p.2 0 = nI k := by rw [c2 0 (by omega)]; exact g0
      refine ⟨z, ?_⟩
      rcases k915 with rfl | rfl
      · exact Or.inr (Or.inl ⟨z, c1⟩)
      · exact Or.inr (Or.inr (Or.inr (Or.inl ⟨z, c1⟩)))
    · split at h
      · rename_i k10
        subst k10
        unfold pTest at h
        split at h
        · obtain ⟨a1, g1, h1, h2⟩ := eB_ok h
          obtain ⟨b1, b2⟩ := pCell_bd hx h1
          obtain ⟨o1, o2⟩ := pCell_go hx _ h1
          obtain ⟨a2, g2, h3, h4⟩ := eB_ok h2
          obtain ⟨c1, c2⟩ := pCmp_bd h3
          obtain ⟨o3, o4⟩ := pCmp_go o2 _ h3
          obtain ⟨d1, d2⟩ := pNum_bd o4 h4
          dsimp only at b1 b2 c1 c2
          have z : p.2 0 = nI 10 := by rw [d2 0 (by omega), c2 0 (by omega), b2 0 (by omega), aSet_n (by omega)]; exact g0
          have t : p.2 1 = 11 := by rw [d2 1 (by omega), c2 1 (by omega), b2 1 (by omega), aSet_s]
          refine ⟨z, Or.inr (Or.inr (Or.inr (Or.inr (Or.inl ⟨z, Or.inl ⟨t, ?_, ?_, d1⟩⟩))))⟩
          · rw [d2 2 (by omega), c2 2 (by omega)]; exact b1
          · rw [d2 4 (by omega)]; exact c1
        · split at h
          · obtain ⟨a1, g1, h1, h2⟩ := eB_ok h
            obtain ⟨b1, b2⟩ := pName_bd h1
            obtain ⟨o1, o2⟩ := pName_go hx _ h1
            obtain ⟨a2, g2, h3, h4⟩ := eB_ok h2
            obtain ⟨c1, c2⟩ := pAt_bd o2 h3
            obtain ⟨o3, o4⟩ := pAt_go o2 _ h3
            obtain ⟨a3, g3, h5, h6⟩ := eB_ok h4
            obtain ⟨d1, d2⟩ := pCmp_bd h5
            obtain ⟨o5, o6⟩ := pCmp_go o4 _ h5
            obtain ⟨e1, e2⟩ := pNum_bd o6 h6
            dsimp only at b1 b2 c1 c2 d1 d2
            have z : p.2 0 = nI 10 := by rw [e2 0 (by omega), d2 0 (by omega), c2 0 (by omega), b2 0 (by omega), aSet_n (by omega)]; exact g0
            have t : p.2 1 = 5 := by rw [e2 1 (by omega), d2 1 (by omega), c2 1 (by omega), b2 1 (by omega), aSet_s]
            refine ⟨z, Or.inr (Or.inr (Or.inr (Or.inr (Or.inl ⟨z, Or.inr (Or.inl ⟨t, ?_, ?_, ?_, e1⟩)⟩))))⟩
            · rw [e2 2 (by omega), d2 2 (by omega), c2 2 (by omega)]; exact b1
            · rw [e2 3 (by omega), d2 3 (by omega)]; exact c1
            · rw [e2 4 (by omega)]; exact d1
          · split at h
            · obtain ⟨b1, b2⟩ := pName_bd h
              have z : p.2 0 = nI 10 := by rw [b2 0 (by omega), aSet_n (by omega)]; exact g0
              have t : p.2 1 = 13 := by rw [b2 1 (by omega), aSet_s]
              exact ⟨z, Or.inr (Or.inr (Or.inr (Or.inr (Or.inl ⟨z, Or.inr (Or.inr (Or.inl ⟨t, b1⟩))⟩))))⟩
            · split at h
              · obtain ⟨a1, g1, h1, h2⟩ := eB_ok h
                obtain ⟨b1, b2⟩ := pCmp_bd h1
                obtain ⟨o1, o2⟩ := pCmp_go hx _ h1
                obtain ⟨c1, c2⟩ := pNum_bd o2 h2
                dsimp only at b1 b2
                have z : p.2 0 = nI 10 := by rw [c2 0 (by omega), b2 0 (by omega), aSet_n (by omega)]; exact g0
                have t : p.2 1 = 14 := by rw [c2 1 (by omega), b2 1 (by omega), aSet_s]
                refine ⟨z, Or.inr (Or.inr (Or.inr (Or.inr (Or.inl ⟨z, Or.inr (Or.inr (Or.inr ⟨t, ?_, c1⟩))⟩))))⟩
                rw [c2 4 (by omega)]; exact b1
              · cases h
      · cases h
        obtain rfl : k = 17 := by omega
        exact ⟨g0, Or.inr (Or.inr (Or.inl g0))⟩
end OWL
